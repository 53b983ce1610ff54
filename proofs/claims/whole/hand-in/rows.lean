section
-- ===== PART A: goes FIRST, ahead of the names: the tables' words, and 'selects' of the private methods out of them =====
/-- a private method of a class that the tables say can be made, by its rows of tables_1 -/
def lw_okq (q : MethodName × Nat) : Prop := (q.1.cls ≠ "java/lang/invoke/MethodHandle" ∧ q.1.cls ≠ "java/lang/invoke/VarHandle") ∧ Cond.instantiable q.1.cls q.2 ∈ tables_1 ∧ Cond.privateMethod q.1 ∈ tables_1 ∧ Cond.instanceMethod q.1 ∈ tables_1
theorem lw_p0 : lw_okq (⟨"LazyBlocks", "cellFor", "(I)I"⟩, 8) := ⟨⟨by decide +kernel, by decide +kernel⟩, List.mem_of_getElem? (i := 9) (by decide +kernel), List.mem_of_getElem? (i := 139) (by decide +kernel), List.mem_of_getElem? (i := 140) (by decide +kernel)⟩
theorem lw_p1 : lw_okq (⟨"LazyBlocks$Blocks", "emptyCell", "(I)I"⟩, 5) := ⟨⟨by decide +kernel, by decide +kernel⟩, List.mem_of_getElem? (i := 79) (by decide +kernel), List.mem_of_getElem? (i := 147) (by decide +kernel), List.mem_of_getElem? (i := 148) (by decide +kernel)⟩
theorem lw_p2 : lw_okq (⟨"LazyBlocks$Blocks", "emptyCellOf", "(I)I"⟩, 5) := ⟨⟨by decide +kernel, by decide +kernel⟩, List.mem_of_getElem? (i := 79) (by decide +kernel), List.mem_of_getElem? (i := 159) (by decide +kernel), List.mem_of_getElem? (i := 160) (by decide +kernel)⟩
theorem lw_p3 : lw_okq (⟨"LazyBlocks$Blocks", "cellsIn", "(I)I"⟩, 5) := ⟨⟨by decide +kernel, by decide +kernel⟩, List.mem_of_getElem? (i := 79) (by decide +kernel), List.mem_of_getElem? (i := 163) (by decide +kernel), List.mem_of_getElem? (i := 164) (by decide +kernel)⟩
theorem lw_p4 : lw_okq (⟨"LazyBlocks$Blocks", "cellOf", "(II)I"⟩, 5) := ⟨⟨by decide +kernel, by decide +kernel⟩, List.mem_of_getElem? (i := 79) (by decide +kernel), List.mem_of_getElem? (i := 174) (by decide +kernel), List.mem_of_getElem? (i := 175) (by decide +kernel)⟩
theorem lw_p5 : lw_okq (⟨"LazyBlocks$Store", "isWord", "(I)Z"⟩, 5) := ⟨⟨by decide +kernel, by decide +kernel⟩, List.mem_of_getElem? (i := 23) (by decide +kernel), List.mem_of_getElem? (i := 183) (by decide +kernel), List.mem_of_getElem? (i := 184) (by decide +kernel)⟩
theorem lw_p6 : lw_okq (⟨"LazyBlocks$Blocks", "cleanOwn", "(I)V"⟩, 5) := ⟨⟨by decide +kernel, by decide +kernel⟩, List.mem_of_getElem? (i := 79) (by decide +kernel), List.mem_of_getElem? (i := 187) (by decide +kernel), List.mem_of_getElem? (i := 188) (by decide +kernel)⟩
theorem lw_p7 : lw_okq (⟨"LazyBlocks$Blocks", "firstFree", "()I"⟩, 5) := ⟨⟨by decide +kernel, by decide +kernel⟩, List.mem_of_getElem? (i := 79) (by decide +kernel), List.mem_of_getElem? (i := 207) (by decide +kernel), List.mem_of_getElem? (i := 208) (by decide +kernel)⟩
theorem lw_p8 : lw_okq (⟨"LazyBlocks$Blocks", "cleanOthers", "(I)I"⟩, 5) := ⟨⟨by decide +kernel, by decide +kernel⟩, List.mem_of_getElem? (i := 79) (by decide +kernel), List.mem_of_getElem? (i := 211) (by decide +kernel), List.mem_of_getElem? (i := 212) (by decide +kernel)⟩
theorem lw_p9 : lw_okq (⟨"LazyBlocks$Blocks", "open", "(II)I"⟩, 5) := ⟨⟨by decide +kernel, by decide +kernel⟩, List.mem_of_getElem? (i := 79) (by decide +kernel), List.mem_of_getElem? (i := 215) (by decide +kernel), List.mem_of_getElem? (i := 216) (by decide +kernel)⟩
theorem lw_p10 : lw_okq (⟨"LazyBlocks", "markAll", "()V"⟩, 8) := ⟨⟨by decide +kernel, by decide +kernel⟩, List.mem_of_getElem? (i := 9) (by decide +kernel), List.mem_of_getElem? (i := 219) (by decide +kernel), List.mem_of_getElem? (i := 220) (by decide +kernel)⟩
theorem lw_p11 : lw_okq (⟨"LazyBlocks", "comeToHeld", "(LLazyBlocks$Walk;)V"⟩, 8) := ⟨⟨by decide +kernel, by decide +kernel⟩, List.mem_of_getElem? (i := 9) (by decide +kernel), List.mem_of_getElem? (i := 227) (by decide +kernel), List.mem_of_getElem? (i := 228) (by decide +kernel)⟩
theorem lw_p12 : lw_okq (⟨"LazyBlocks", "cutWeakFields", "()V"⟩, 8) := ⟨⟨by decide +kernel, by decide +kernel⟩, List.mem_of_getElem? (i := 9) (by decide +kernel), List.mem_of_getElem? (i := 260) (by decide +kernel), List.mem_of_getElem? (i := 261) (by decide +kernel)⟩
theorem lw_p13 : lw_okq (⟨"LazyBlocks", "queueWatched", "()V"⟩, 8) := ⟨⟨by decide +kernel, by decide +kernel⟩, List.mem_of_getElem? (i := 9) (by decide +kernel), List.mem_of_getElem? (i := 280) (by decide +kernel), List.mem_of_getElem? (i := 281) (by decide +kernel)⟩
theorem lw_p14 : lw_okq (⟨"LazyBlocks", "fieldFault", "(II)I"⟩, 8) := ⟨⟨by decide +kernel, by decide +kernel⟩, List.mem_of_getElem? (i := 9) (by decide +kernel), List.mem_of_getElem? (i := 314) (by decide +kernel), List.mem_of_getElem? (i := 315) (by decide +kernel)⟩
theorem lw_p15 : lw_okq (⟨"LazyBlocks", "rootFault", "(I)I"⟩, 8) := ⟨⟨by decide +kernel, by decide +kernel⟩, List.mem_of_getElem? (i := 9) (by decide +kernel), List.mem_of_getElem? (i := 318) (by decide +kernel), List.mem_of_getElem? (i := 319) (by decide +kernel)⟩
def lw_privs_1 : List (MethodName × Nat) := [(⟨"LazyBlocks", "cellFor", "(I)I"⟩, 8), (⟨"LazyBlocks$Blocks", "emptyCell", "(I)I"⟩, 5), (⟨"LazyBlocks$Blocks", "emptyCellOf", "(I)I"⟩, 5), (⟨"LazyBlocks$Blocks", "cellsIn", "(I)I"⟩, 5), (⟨"LazyBlocks$Blocks", "cellOf", "(II)I"⟩, 5), (⟨"LazyBlocks$Store", "isWord", "(I)Z"⟩, 5), (⟨"LazyBlocks$Blocks", "cleanOwn", "(I)V"⟩, 5), (⟨"LazyBlocks$Blocks", "firstFree", "()I"⟩, 5), (⟨"LazyBlocks$Blocks", "cleanOthers", "(I)I"⟩, 5), (⟨"LazyBlocks$Blocks", "open", "(II)I"⟩, 5), (⟨"LazyBlocks", "markAll", "()V"⟩, 8), (⟨"LazyBlocks", "comeToHeld", "(LLazyBlocks$Walk;)V"⟩, 8), (⟨"LazyBlocks", "cutWeakFields", "()V"⟩, 8), (⟨"LazyBlocks", "queueWatched", "()V"⟩, 8), (⟨"LazyBlocks", "fieldFault", "(II)I"⟩, 8), (⟨"LazyBlocks", "rootFault", "(I)I"⟩, 8)]
theorem lw_r1 : ∀ q ∈ lw_privs_1, lw_okq q := List.forall_mem_cons.mpr ⟨lw_p0, List.forall_mem_cons.mpr ⟨lw_p1, List.forall_mem_cons.mpr ⟨lw_p2, List.forall_mem_cons.mpr ⟨lw_p3, List.forall_mem_cons.mpr ⟨lw_p4, List.forall_mem_cons.mpr ⟨lw_p5, List.forall_mem_cons.mpr ⟨lw_p6, List.forall_mem_cons.mpr ⟨lw_p7, List.forall_mem_cons.mpr ⟨lw_p8, List.forall_mem_cons.mpr ⟨lw_p9, List.forall_mem_cons.mpr ⟨lw_p10, List.forall_mem_cons.mpr ⟨lw_p11, List.forall_mem_cons.mpr ⟨lw_p12, List.forall_mem_cons.mpr ⟨lw_p13, List.forall_mem_cons.mpr ⟨lw_p14, List.forall_mem_cons.mpr ⟨lw_p15, fun _ h => absurd h List.not_mem_nil⟩⟩⟩⟩⟩⟩⟩⟩⟩⟩⟩⟩⟩⟩⟩⟩
theorem lw_p16 : lw_okq (⟨"LazyBlocks", "tell", "(II)I"⟩, 8) := ⟨⟨by decide +kernel, by decide +kernel⟩, List.mem_of_getElem? (i := 9) (by decide +kernel), List.mem_of_getElem? (i := 379) (by decide +kernel), List.mem_of_getElem? (i := 380) (by decide +kernel)⟩
theorem lw_p17 : lw_okq (⟨"LazyBlocks", "heldObjects", "()I"⟩, 8) := ⟨⟨by decide +kernel, by decide +kernel⟩, List.mem_of_getElem? (i := 9) (by decide +kernel), List.mem_of_getElem? (i := 437) (by decide +kernel), List.mem_of_getElem? (i := 438) (by decide +kernel)⟩
theorem lw_p18 : lw_okq (⟨"LazyBlocks", "addObject", "(JI)J"⟩, 8) := ⟨⟨by decide +kernel, by decide +kernel⟩, List.mem_of_getElem? (i := 9) (by decide +kernel), List.mem_of_getElem? (i := 451) (by decide +kernel), List.mem_of_getElem? (i := 452) (by decide +kernel)⟩
theorem lw_p19 : lw_okq (⟨"LazyBlocks", "fieldTerm", "(II)J"⟩, 8) := ⟨⟨by decide +kernel, by decide +kernel⟩, List.mem_of_getElem? (i := 9) (by decide +kernel), List.mem_of_getElem? (i := 456) (by decide +kernel), List.mem_of_getElem? (i := 457) (by decide +kernel)⟩
theorem lw_p20 : lw_okq (⟨"LazyBlocksModel", "room", "(I)I"⟩, 19) := ⟨⟨by decide +kernel, by decide +kernel⟩, List.mem_of_getElem? (i := 466) (by decide +kernel), List.mem_of_getElem? (i := 540) (by decide +kernel), List.mem_of_getElem? (i := 541) (by decide +kernel)⟩
theorem lw_p21 : lw_okq (⟨"LazyBlocksModel", "emptyCell", "(I)I"⟩, 19) := ⟨⟨by decide +kernel, by decide +kernel⟩, List.mem_of_getElem? (i := 466) (by decide +kernel), List.mem_of_getElem? (i := 544) (by decide +kernel), List.mem_of_getElem? (i := 545) (by decide +kernel)⟩
theorem lw_p22 : lw_okq (⟨"LazyBlocksModel", "sweepBlock", "(I)V"⟩, 19) := ⟨⟨by decide +kernel, by decide +kernel⟩, List.mem_of_getElem? (i := 466) (by decide +kernel), List.mem_of_getElem? (i := 551) (by decide +kernel), List.mem_of_getElem? (i := 552) (by decide +kernel)⟩
theorem lw_p23 : lw_okq (⟨"LazyBlocksModel", "objectsIn", "(I)I"⟩, 19) := ⟨⟨by decide +kernel, by decide +kernel⟩, List.mem_of_getElem? (i := 466) (by decide +kernel), List.mem_of_getElem? (i := 555) (by decide +kernel), List.mem_of_getElem? (i := 556) (by decide +kernel)⟩
theorem lw_p24 : lw_okq (⟨"LazyBlocksModel", "emptyIn", "(I)I"⟩, 19) := ⟨⟨by decide +kernel, by decide +kernel⟩, List.mem_of_getElem? (i := 466) (by decide +kernel), List.mem_of_getElem? (i := 559) (by decide +kernel), List.mem_of_getElem? (i := 560) (by decide +kernel)⟩
theorem lw_p25 : lw_okq (⟨"LazyBlocksModel", "takeFree", "(I)I"⟩, 19) := ⟨⟨by decide +kernel, by decide +kernel⟩, List.mem_of_getElem? (i := 466) (by decide +kernel), List.mem_of_getElem? (i := 563) (by decide +kernel), List.mem_of_getElem? (i := 564) (by decide +kernel)⟩
theorem lw_p26 : lw_okq (⟨"LazyBlocksModel", "markNow", "()V"⟩, 19) := ⟨⟨by decide +kernel, by decide +kernel⟩, List.mem_of_getElem? (i := 466) (by decide +kernel), List.mem_of_getElem? (i := 567) (by decide +kernel), List.mem_of_getElem? (i := 568) (by decide +kernel)⟩
theorem lw_p27 : lw_okq (⟨"LazyBlocksModel", "reach", "()V"⟩, 19) := ⟨⟨by decide +kernel, by decide +kernel⟩, List.mem_of_getElem? (i := 466) (by decide +kernel), List.mem_of_getElem? (i := 571) (by decide +kernel), List.mem_of_getElem? (i := 572) (by decide +kernel)⟩
theorem lw_p28 : lw_okq (⟨"LazyBlocksModel", "begin", "()V"⟩, 19) := ⟨⟨by decide +kernel, by decide +kernel⟩, List.mem_of_getElem? (i := 466) (by decide +kernel), List.mem_of_getElem? (i := 575) (by decide +kernel), List.mem_of_getElem? (i := 576) (by decide +kernel)⟩
theorem lw_p29 : lw_okq (⟨"LazyBlocksModel", "meet", "(I)V"⟩, 19) := ⟨⟨by decide +kernel, by decide +kernel⟩, List.mem_of_getElem? (i := 466) (by decide +kernel), List.mem_of_getElem? (i := 579) (by decide +kernel), List.mem_of_getElem? (i := 580) (by decide +kernel)⟩
theorem lw_p30 : lw_okq (⟨"LazyBlocksModel", "follow", "()V"⟩, 19) := ⟨⟨by decide +kernel, by decide +kernel⟩, List.mem_of_getElem? (i := 466) (by decide +kernel), List.mem_of_getElem? (i := 583) (by decide +kernel), List.mem_of_getElem? (i := 584) (by decide +kernel)⟩
theorem lw_p31 : lw_okq (⟨"LazyBlocksModel", "loosen", "()V"⟩, 19) := ⟨⟨by decide +kernel, by decide +kernel⟩, List.mem_of_getElem? (i := 466) (by decide +kernel), List.mem_of_getElem? (i := 587) (by decide +kernel), List.mem_of_getElem? (i := 588) (by decide +kernel)⟩
def lw_privs_2 : List (MethodName × Nat) := [(⟨"LazyBlocks", "tell", "(II)I"⟩, 8), (⟨"LazyBlocks", "heldObjects", "()I"⟩, 8), (⟨"LazyBlocks", "addObject", "(JI)J"⟩, 8), (⟨"LazyBlocks", "fieldTerm", "(II)J"⟩, 8), (⟨"LazyBlocksModel", "room", "(I)I"⟩, 19), (⟨"LazyBlocksModel", "emptyCell", "(I)I"⟩, 19), (⟨"LazyBlocksModel", "sweepBlock", "(I)V"⟩, 19), (⟨"LazyBlocksModel", "objectsIn", "(I)I"⟩, 19), (⟨"LazyBlocksModel", "emptyIn", "(I)I"⟩, 19), (⟨"LazyBlocksModel", "takeFree", "(I)I"⟩, 19), (⟨"LazyBlocksModel", "markNow", "()V"⟩, 19), (⟨"LazyBlocksModel", "reach", "()V"⟩, 19), (⟨"LazyBlocksModel", "begin", "()V"⟩, 19), (⟨"LazyBlocksModel", "meet", "(I)V"⟩, 19), (⟨"LazyBlocksModel", "follow", "()V"⟩, 19), (⟨"LazyBlocksModel", "loosen", "()V"⟩, 19)]
theorem lw_r2 : ∀ q ∈ lw_privs_2, lw_okq q := List.forall_mem_cons.mpr ⟨lw_p16, List.forall_mem_cons.mpr ⟨lw_p17, List.forall_mem_cons.mpr ⟨lw_p18, List.forall_mem_cons.mpr ⟨lw_p19, List.forall_mem_cons.mpr ⟨lw_p20, List.forall_mem_cons.mpr ⟨lw_p21, List.forall_mem_cons.mpr ⟨lw_p22, List.forall_mem_cons.mpr ⟨lw_p23, List.forall_mem_cons.mpr ⟨lw_p24, List.forall_mem_cons.mpr ⟨lw_p25, List.forall_mem_cons.mpr ⟨lw_p26, List.forall_mem_cons.mpr ⟨lw_p27, List.forall_mem_cons.mpr ⟨lw_p28, List.forall_mem_cons.mpr ⟨lw_p29, List.forall_mem_cons.mpr ⟨lw_p30, List.forall_mem_cons.mpr ⟨lw_p31, fun _ h => absurd h List.not_mem_nil⟩⟩⟩⟩⟩⟩⟩⟩⟩⟩⟩⟩⟩⟩⟩⟩
theorem lw_p32 : lw_okq (⟨"LazyBlocksModel", "wrong", "(II)I"⟩, 19) := ⟨⟨by decide +kernel, by decide +kernel⟩, List.mem_of_getElem? (i := 466) (by decide +kernel), List.mem_of_getElem? (i := 595) (by decide +kernel), List.mem_of_getElem? (i := 596) (by decide +kernel)⟩
theorem lw_p33 : lw_okq (⟨"LazyBlocksModel", "nameOf", "(I)I"⟩, 19) := ⟨⟨by decide +kernel, by decide +kernel⟩, List.mem_of_getElem? (i := 466) (by decide +kernel), List.mem_of_getElem? (i := 619) (by decide +kernel), List.mem_of_getElem? (i := 620) (by decide +kernel)⟩
theorem lw_p34 : lw_okq (⟨"LazyBlocksModel", "objects", "(ZZ)I"⟩, 19) := ⟨⟨by decide +kernel, by decide +kernel⟩, List.mem_of_getElem? (i := 466) (by decide +kernel), List.mem_of_getElem? (i := 659) (by decide +kernel), List.mem_of_getElem? (i := 660) (by decide +kernel)⟩
theorem lw_p35 : lw_okq (⟨"LazyBlocksModel", "blocksThat", "(Z)I"⟩, 19) := ⟨⟨by decide +kernel, by decide +kernel⟩, List.mem_of_getElem? (i := 466) (by decide +kernel), List.mem_of_getElem? (i := 663) (by decide +kernel), List.mem_of_getElem? (i := 664) (by decide +kernel)⟩
def lw_privs_3 : List (MethodName × Nat) := [(⟨"LazyBlocksModel", "wrong", "(II)I"⟩, 19), (⟨"LazyBlocksModel", "nameOf", "(I)I"⟩, 19), (⟨"LazyBlocksModel", "objects", "(ZZ)I"⟩, 19), (⟨"LazyBlocksModel", "blocksThat", "(Z)I"⟩, 19)]
theorem lw_r3 : ∀ q ∈ lw_privs_3, lw_okq q := List.forall_mem_cons.mpr ⟨lw_p32, List.forall_mem_cons.mpr ⟨lw_p33, List.forall_mem_cons.mpr ⟨lw_p34, List.forall_mem_cons.mpr ⟨lw_p35, fun _ h => absurd h List.not_mem_nil⟩⟩⟩⟩
def lw_privs : List (MethodName × Nat) := lw_privs_1 ++ (lw_privs_2 ++ (lw_privs_3))
def lw_tbl : List Cond := k2_sels lw_privs ++ tables_1
theorem lw_privs_ok : ∀ q ∈ lw_privs, lw_okq q := by
  show ∀ q ∈ lw_privs_1 ++ (lw_privs_2 ++ (lw_privs_3)), lw_okq q
  exact List.forall_mem_append.mpr ⟨lw_r1, List.forall_mem_append.mpr ⟨lw_r2, lw_r3⟩⟩
-- ===== end of PART A; then your names; then what follows =====
end
section
def RX0 : String := "LazyBlocks$Blocks"
def TX0 : u_T := fun k => match k with
  | 0 => ("LazyBlocks$Blocks", "store", "LLazyBlocks$Store;", true)
  | 1 => ("LazyBlocks$Blocks", "marks", "LLazyBlocks$Walk;", true)
  | 2 => ("LazyBlocks$Blocks", "classes", "[I", true)
  | 3 => ("LazyBlocks$Blocks", "unswept", "[Z", true)
  | _ => ("LazyBlocks$Blocks", "sweeps", "I", false)
def tyX0 : Nat → FieldType := fun k => match k with
  | 0 => .object "LazyBlocks$Store"
  | 1 => .object "LazyBlocks$Walk"
  | 2 => .array .int
  | 3 => .array .boolean
  | _ => .int
abbrev wsX00 : List Cond := u_ws RX0 TX0 5
theorem nmX0 : ∀ a, a < 5 → ∀ b, b < 5 → a ≠ b → (TX0 a).2.1 ≠ (TX0 b).2.1 := by decide +kernel
theorem tyX0_ok : ∀ k, k < 5 → parseFieldDescriptor (TX0 k).2.2.1 = some (tyX0 k) := by decide +kernel
abbrev cX0_init : ByteArray := prog_2_method_1_code
def yX0_init : MethodName := ⟨RX0, "<init>", "(ILLazyBlocks$Store;LLazyBlocks$Walk;)V"⟩
abbrev cX0_has : ByteArray := prog_2_method_2_code
def yX0_has : MethodName := ⟨RX0, "has", "(I)Z"⟩
abbrev cX0_classOf : ByteArray := prog_2_method_3_code
def yX0_classOf : MethodName := ⟨RX0, "classOf", "(I)I"⟩
abbrev cX0_isUnswept : ByteArray := prog_2_method_4_code
def yX0_isUnswept : MethodName := ⟨RX0, "isUnswept", "(I)Z"⟩
abbrev cX0_sweepsDone : ByteArray := prog_2_method_5_code
def yX0_sweepsDone : MethodName := ⟨RX0, "sweepsDone", "()I"⟩
abbrev cX0_cellsIn : ByteArray := prog_2_method_6_code
def yX0_cellsIn : MethodName := ⟨RX0, "cellsIn", "(I)I"⟩
abbrev cX0_cellOf : ByteArray := prog_2_method_7_code
def yX0_cellOf : MethodName := ⟨RX0, "cellOf", "(II)I"⟩
abbrev cX0_cellAround : ByteArray := prog_2_method_8_code
def yX0_cellAround : MethodName := ⟨RX0, "cellAround", "(I)I"⟩
abbrev cX0_objectsIn : ByteArray := prog_2_method_9_code
def yX0_objectsIn : MethodName := ⟨RX0, "objectsIn", "(I)I"⟩
abbrev cX0_emptyCellsIn : ByteArray := prog_2_method_10_code
def yX0_emptyCellsIn : MethodName := ⟨RX0, "emptyCellsIn", "(I)I"⟩
abbrev cX0_objects : ByteArray := prog_2_method_11_code
def yX0_objects : MethodName := ⟨RX0, "objects", "()I"⟩
abbrev cX0_usedWords : ByteArray := prog_2_method_12_code
def yX0_usedWords : MethodName := ⟨RX0, "usedWords", "()I"⟩
abbrev cX0_freeBlocks : ByteArray := prog_2_method_13_code
def yX0_freeBlocks : MethodName := ⟨RX0, "freeBlocks", "()I"⟩
abbrev cX0_unsweptBlocks : ByteArray := prog_2_method_14_code
def yX0_unsweptBlocks : MethodName := ⟨RX0, "unsweptBlocks", "()I"⟩
abbrev cX0_firstUnswept : ByteArray := prog_2_method_15_code
def yX0_firstUnswept : MethodName := ⟨RX0, "firstUnswept", "()I"⟩
abbrev cX0_unsweepAll : ByteArray := prog_2_method_16_code
def yX0_unsweepAll : MethodName := ⟨RX0, "unsweepAll", "()V"⟩
abbrev cX0_clean : ByteArray := prog_2_method_17_code
def yX0_clean : MethodName := ⟨RX0, "clean", "(I)V"⟩
abbrev cX0_findCell : ByteArray := prog_2_method_18_code
def yX0_findCell : MethodName := ⟨RX0, "findCell", "(I)I"⟩
abbrev cX0_emptyCell : ByteArray := prog_2_method_19_code
def yX0_emptyCell : MethodName := ⟨RX0, "emptyCell", "(I)I"⟩
abbrev cX0_emptyCellOf : ByteArray := prog_2_method_20_code
def yX0_emptyCellOf : MethodName := ⟨RX0, "emptyCellOf", "(I)I"⟩
abbrev cX0_cleanOwn : ByteArray := prog_2_method_21_code
def yX0_cleanOwn : MethodName := ⟨RX0, "cleanOwn", "(I)V"⟩
abbrev cX0_cleanOthers : ByteArray := prog_2_method_22_code
def yX0_cleanOthers : MethodName := ⟨RX0, "cleanOthers", "(I)I"⟩
abbrev cX0_firstFree : ByteArray := prog_2_method_23_code
def yX0_firstFree : MethodName := ⟨RX0, "firstFree", "()I"⟩
abbrev cX0_open : ByteArray := prog_2_method_24_code
def yX0_open : MethodName := ⟨RX0, "open", "(II)I"⟩
def RX1 : String := "LazyBlocks$Line"
def TX1 : u_T := fun k => match k with
  | 0 => ("LazyBlocks$Line", "members", "[I", true)
  | _ => ("LazyBlocks$Line", "size", "I", false)
def tyX1 : Nat → FieldType := fun k => match k with
  | 0 => .array .int
  | _ => .int
abbrev wsX10 : List Cond := u_ws RX1 TX1 2
theorem nmX1 : ∀ a, a < 2 → ∀ b, b < 2 → a ≠ b → (TX1 a).2.1 ≠ (TX1 b).2.1 := by decide +kernel
theorem tyX1_ok : ∀ k, k < 2 → parseFieldDescriptor (TX1 k).2.2.1 = some (tyX1 k) := by decide +kernel
abbrev cX1_init : ByteArray := prog_3_method_1_code
def yX1_init : MethodName := ⟨RX1, "<init>", "(I)V"⟩
abbrev cX1_size : ByteArray := prog_3_method_2_code
def yX1_size : MethodName := ⟨RX1, "size", "()I"⟩
abbrev cX1_get : ByteArray := prog_3_method_3_code
def yX1_get : MethodName := ⟨RX1, "get", "(I)I"⟩
abbrev cX1_addByName : ByteArray := prog_3_method_4_code
def yX1_addByName : MethodName := ⟨RX1, "addByName", "(IILLazyBlocks$Store;)V"⟩
abbrev cX1_takeFirst : ByteArray := prog_3_method_5_code
def yX1_takeFirst : MethodName := ⟨RX1, "takeFirst", "()I"⟩
def RX2 : String := "LazyBlocks$Store"
def TX2 : u_T := fun k => match k with
  | 0 => ("LazyBlocks$Store", "names", "[I", true)
  | 1 => ("LazyBlocks$Store", "fields", "[I", true)
  | 2 => ("LazyBlocks$Store", "watched", "[Z", true)
  | 3 => ("LazyBlocks$Store", "kinds", "[I", true)
  | _ => ("LazyBlocks$Store", "values", "[I", true)
def tyX2 : Nat → FieldType := fun k => match k with
  | 0 => .array .int
  | 1 => .array .int
  | 2 => .array .boolean
  | 3 => .array .int
  | _ => .array .int
abbrev wsX20 : List Cond := u_ws RX2 TX2 5
theorem nmX2 : ∀ a, a < 5 → ∀ b, b < 5 → a ≠ b → (TX2 a).2.1 ≠ (TX2 b).2.1 := by decide +kernel
theorem tyX2_ok : ∀ k, k < 5 → parseFieldDescriptor (TX2 k).2.2.1 = some (tyX2 k) := by decide +kernel
abbrev cX2_init : ByteArray := prog_4_method_1_code
def yX2_init : MethodName := ⟨RX2, "<init>", "(I)V"⟩
abbrev cX2_words : ByteArray := prog_4_method_2_code
def yX2_words : MethodName := ⟨RX2, "words", "()I"⟩
abbrev cX2_isWord : ByteArray := prog_4_method_3_code
def yX2_isWord : MethodName := ⟨RX2, "isWord", "(I)Z"⟩
abbrev cX2_nameAt : ByteArray := prog_4_method_4_code
def yX2_nameAt : MethodName := ⟨RX2, "nameAt", "(I)I"⟩
abbrev cX2_fieldsOf : ByteArray := prog_4_method_5_code
def yX2_fieldsOf : MethodName := ⟨RX2, "fieldsOf", "(I)I"⟩
abbrev cX2_isWatched : ByteArray := prog_4_method_6_code
def yX2_isWatched : MethodName := ⟨RX2, "isWatched", "(I)Z"⟩
abbrev cX2_setWatched : ByteArray := prog_4_method_7_code
def yX2_setWatched : MethodName := ⟨RX2, "setWatched", "(IZ)V"⟩
abbrev cX2_kindOf : ByteArray := prog_4_method_8_code
def yX2_kindOf : MethodName := ⟨RX2, "kindOf", "(II)I"⟩
abbrev cX2_valueOf : ByteArray := prog_4_method_9_code
def yX2_valueOf : MethodName := ⟨RX2, "valueOf", "(II)I"⟩
abbrev cX2_write : ByteArray := prog_4_method_10_code
def yX2_write : MethodName := ⟨RX2, "write", "(IIII)V"⟩
abbrev cX2_place : ByteArray := prog_4_method_11_code
def yX2_place : MethodName := ⟨RX2, "place", "(III)V"⟩
abbrev cX2_remove : ByteArray := prog_4_method_12_code
def yX2_remove : MethodName := ⟨RX2, "remove", "(I)V"⟩
abbrev cX2_watchedObjects : ByteArray := prog_4_method_13_code
def yX2_watchedObjects : MethodName := ⟨RX2, "watchedObjects", "()I"⟩
def RX3 : String := "LazyBlocks$Walk"
def TX3 : u_T := fun k => match k with
  | 0 => ("LazyBlocks$Walk", "order", "[I", true)
  | 1 => ("LazyBlocks$Walk", "ranks", "[I", true)
  | 2 => ("LazyBlocks$Walk", "size", "I", false)
  | _ => ("LazyBlocks$Walk", "looked", "I", false)
def tyX3 : Nat → FieldType := fun k => match k with
  | 0 => .array .int
  | 1 => .array .int
  | 2 => .int
  | _ => .int
abbrev wsX30 : List Cond := u_ws RX3 TX3 4
theorem nmX3 : ∀ a, a < 4 → ∀ b, b < 4 → a ≠ b → (TX3 a).2.1 ≠ (TX3 b).2.1 := by decide +kernel
theorem tyX3_ok : ∀ k, k < 4 → parseFieldDescriptor (TX3 k).2.2.1 = some (tyX3 k) := by decide +kernel
abbrev cX3_init : ByteArray := prog_5_method_1_code
def yX3_init : MethodName := ⟨RX3, "<init>", "(I)V"⟩
abbrev cX3_size : ByteArray := prog_5_method_2_code
def yX3_size : MethodName := ⟨RX3, "size", "()I"⟩
abbrev cX3_get : ByteArray := prog_5_method_3_code
def yX3_get : MethodName := ⟨RX3, "get", "(I)I"⟩
abbrev cX3_rankOf : ByteArray := prog_5_method_4_code
def yX3_rankOf : MethodName := ⟨RX3, "rankOf", "(I)I"⟩
abbrev cX3_has : ByteArray := prog_5_method_5_code
def yX3_has : MethodName := ⟨RX3, "has", "(I)Z"⟩
abbrev cX3_clear : ByteArray := prog_5_method_6_code
def yX3_clear : MethodName := ⟨RX3, "clear", "()V"⟩
abbrev cX3_come : ByteArray := prog_5_method_7_code
def yX3_come : MethodName := ⟨RX3, "come", "(I)V"⟩
abbrev cX3_spread : ByteArray := prog_5_method_8_code
def yX3_spread : MethodName := ⟨RX3, "spread", "(LLazyBlocks$Store;)V"⟩
def RX4 : String := "LazyBlocks"
def TX4 : u_T := fun k => match k with
  | 0 => ("LazyBlocks", "store", "LLazyBlocks$Store;", true)
  | 1 => ("LazyBlocks", "blocks", "LLazyBlocks$Blocks;", true)
  | 2 => ("LazyBlocks", "queue", "LLazyBlocks$Line;", true)
  | 3 => ("LazyBlocks", "roots", "[I", true)
  | 4 => ("LazyBlocks", "marks", "LLazyBlocks$Walk;", true)
  | 5 => ("LazyBlocks", "walk", "LLazyBlocks$Walk;", true)
  | 6 => ("LazyBlocks", "made", "I", false)
  | _ => ("LazyBlocks", "markings", "I", false)
def tyX4 : Nat → FieldType := fun k => match k with
  | 0 => .object "LazyBlocks$Store"
  | 1 => .object "LazyBlocks$Blocks"
  | 2 => .object "LazyBlocks$Line"
  | 3 => .array .int
  | 4 => .object "LazyBlocks$Walk"
  | 5 => .object "LazyBlocks$Walk"
  | 6 => .int
  | _ => .int
abbrev wsX40 : List Cond := u_ws RX4 TX4 8
theorem nmX4 : ∀ a, a < 8 → ∀ b, b < 8 → a ≠ b → (TX4 a).2.1 ≠ (TX4 b).2.1 := by decide +kernel
theorem tyX4_ok : ∀ k, k < 8 → parseFieldDescriptor (TX4 k).2.2.1 = some (tyX4 k) := by decide +kernel
abbrev cX4_init : ByteArray := prog_1_method_1_code
def yX4_init : MethodName := ⟨RX4, "<init>", "(I)V"⟩
abbrev cX4_make : ByteArray := prog_1_method_2_code
def yX4_make : MethodName := ⟨RX4, "make", "(II)I"⟩
abbrev cX4_set : ByteArray := prog_1_method_3_code
def yX4_set : MethodName := ⟨RX4, "set", "(III)I"⟩
abbrev cX4_link : ByteArray := prog_1_method_4_code
def yX4_link : MethodName := ⟨RX4, "link", "(IIIZ)I"⟩
abbrev cX4_refers : ByteArray := prog_1_method_5_code
def yX4_refers : MethodName := ⟨RX4, "refers", "(II)I"⟩
abbrev cX4_number : ByteArray := prog_1_method_6_code
def yX4_number : MethodName := ⟨RX4, "number", "(II)I"⟩
abbrev cX4_load : ByteArray := prog_1_method_7_code
def yX4_load : MethodName := ⟨RX4, "load", "(III)I"⟩
abbrev cX4_copy : ByteArray := prog_1_method_8_code
def yX4_copy : MethodName := ⟨RX4, "copy", "(II)I"⟩
abbrev cX4_drop : ByteArray := prog_1_method_9_code
def yX4_drop : MethodName := ⟨RX4, "drop", "(I)I"⟩
abbrev cX4_watch : ByteArray := prog_1_method_10_code
def yX4_watch : MethodName := ⟨RX4, "watch", "(IZ)I"⟩
abbrev cX4_next : ByteArray := prog_1_method_11_code
def yX4_next : MethodName := ⟨RX4, "next", "(I)I"⟩
abbrev cX4_mark : ByteArray := prog_1_method_12_code
def yX4_mark : MethodName := ⟨RX4, "mark", "()I"⟩
abbrev cX4_sweep : ByteArray := prog_1_method_13_code
def yX4_sweep : MethodName := ⟨RX4, "sweep", "()I"⟩
abbrev cX4_object : ByteArray := prog_1_method_14_code
def yX4_object : MethodName := ⟨RX4, "object", "(II)I"⟩
abbrev cX4_at : ByteArray := prog_1_method_15_code
def yX4_at : MethodName := ⟨RX4, "at", "(I)I"⟩
abbrev cX4_block : ByteArray := prog_1_method_16_code
def yX4_block : MethodName := ⟨RX4, "block", "(II)I"⟩
abbrev cX4_count : ByteArray := prog_1_method_17_code
def yX4_count : MethodName := ⟨RX4, "count", "(I)I"⟩
abbrev cX4_same : ByteArray := prog_1_method_18_code
def yX4_same : MethodName := ⟨RX4, "same", "(II)I"⟩
abbrev cX4_sum : ByteArray := prog_1_method_19_code
def yX4_sum : MethodName := ⟨RX4, "sum", "(I)J"⟩
abbrev cX4_oneIf : ByteArray := prog_1_method_20_code
def yX4_oneIf : MethodName := ⟨RX4, "oneIf", "(Z)I"⟩
abbrev cX4_cellWords : ByteArray := prog_1_method_21_code
def yX4_cellWords : MethodName := ⟨RX4, "cellWords", "(I)I"⟩
abbrev cX4_cellsPerBlock : ByteArray := prog_1_method_22_code
def yX4_cellsPerBlock : MethodName := ⟨RX4, "cellsPerBlock", "(I)I"⟩
abbrev cX4_classFor : ByteArray := prog_1_method_23_code
def yX4_classFor : MethodName := ⟨RX4, "classFor", "(I)I"⟩
abbrev cX4_isRoot : ByteArray := prog_1_method_24_code
def yX4_isRoot : MethodName := ⟨RX4, "isRoot", "(I)Z"⟩
abbrev cX4_rootFault : ByteArray := prog_1_method_25_code
def yX4_rootFault : MethodName := ⟨RX4, "rootFault", "(I)I"⟩
abbrev cX4_fieldFault : ByteArray := prog_1_method_26_code
def yX4_fieldFault : MethodName := ⟨RX4, "fieldFault", "(II)I"⟩
abbrev cX4_tell : ByteArray := prog_1_method_27_code
def yX4_tell : MethodName := ⟨RX4, "tell", "(II)I"⟩
abbrev cX4_cellFor : ByteArray := prog_1_method_28_code
def yX4_cellFor : MethodName := ⟨RX4, "cellFor", "(I)I"⟩
abbrev cX4_markAll : ByteArray := prog_1_method_29_code
def yX4_markAll : MethodName := ⟨RX4, "markAll", "()V"⟩
abbrev cX4_comeToHeld : ByteArray := prog_1_method_30_code
def yX4_comeToHeld : MethodName := ⟨RX4, "comeToHeld", "(LLazyBlocks$Walk;)V"⟩
abbrev cX4_heldObjects : ByteArray := prog_1_method_31_code
def yX4_heldObjects : MethodName := ⟨RX4, "heldObjects", "()I"⟩
abbrev cX4_cutWeakFields : ByteArray := prog_1_method_32_code
def yX4_cutWeakFields : MethodName := ⟨RX4, "cutWeakFields", "()V"⟩
abbrev cX4_queueWatched : ByteArray := prog_1_method_33_code
def yX4_queueWatched : MethodName := ⟨RX4, "queueWatched", "()V"⟩
abbrev cX4_addObject : ByteArray := prog_1_method_34_code
def yX4_addObject : MethodName := ⟨RX4, "addObject", "(JI)J"⟩
abbrev cX4_fieldTerm : ByteArray := prog_1_method_35_code
def yX4_fieldTerm : MethodName := ⟨RX4, "fieldTerm", "(II)J"⟩
def RX5 : String := "LazyBlocksModel"
def TX5 : u_T := fun k => match k with
  | 0 => ("LazyBlocksModel", "thrown", "I", false)
  | 1 => ("LazyBlocksModel", "blocks", "I", true)
  | 2 => ("LazyBlocksModel", "made", "I", false)
  | 3 => ("LazyBlocksModel", "marks", "I", false)
  | 4 => ("LazyBlocksModel", "sweeps", "I", false)
  | 5 => ("LazyBlocksModel", "sort", "[I", true)
  | 6 => ("LazyBlocksModel", "unswept", "[Z", true)
  | 7 => ("LazyBlocksModel", "name", "[I", true)
  | 8 => ("LazyBlocksModel", "fields", "[I", true)
  | 9 => ("LazyBlocksModel", "marked", "[Z", true)
  | 10 => ("LazyBlocksModel", "watched", "[Z", true)
  | 11 => ("LazyBlocksModel", "kind", "[I", true)
  | 12 => ("LazyBlocksModel", "value", "[I", true)
  | 13 => ("LazyBlocksModel", "root", "[I", true)
  | 14 => ("LazyBlocksModel", "queued", "I", false)
  | 15 => ("LazyBlocksModel", "queue", "[I", true)
  | 16 => ("LazyBlocksModel", "size", "I", false)
  | 17 => ("LazyBlocksModel", "row", "[I", true)
  | _ => ("LazyBlocksModel", "place", "[I", true)
def tyX5 : Nat → FieldType := fun k => match k with
  | 0 => .int
  | 1 => .int
  | 2 => .int
  | 3 => .int
  | 4 => .int
  | 5 => .array .int
  | 6 => .array .boolean
  | 7 => .array .int
  | 8 => .array .int
  | 9 => .array .boolean
  | 10 => .array .boolean
  | 11 => .array .int
  | 12 => .array .int
  | 13 => .array .int
  | 14 => .int
  | 15 => .array .int
  | 16 => .int
  | 17 => .array .int
  | _ => .array .int
abbrev wsX50 : List Cond := u_ws RX5 TX5 19
theorem nmX5 : ∀ a, a < 19 → ∀ b, b < 19 → a ≠ b → (TX5 a).2.1 ≠ (TX5 b).2.1 := by decide +kernel
theorem tyX5_ok : ∀ k, k < 19 → parseFieldDescriptor (TX5 k).2.2.1 = some (tyX5 k) := by decide +kernel
abbrev cX5_init : ByteArray := prog_7_method_1_code
def yX5_init : MethodName := ⟨RX5, "<init>", "(I)V"⟩
abbrev cX5_in : ByteArray := prog_7_method_3_code
def yX5_in : MethodName := ⟨RX5, "in", "(III)Z"⟩
abbrev cX5_isRoot : ByteArray := prog_7_method_4_code
def yX5_isRoot : MethodName := ⟨RX5, "isRoot", "(I)Z"⟩
abbrev cX5_cellOf : ByteArray := prog_7_method_5_code
def yX5_cellOf : MethodName := ⟨RX5, "cellOf", "(I)I"⟩
abbrev cX5_begin : ByteArray := prog_7_method_6_code
def yX5_begin : MethodName := ⟨RX5, "begin", "()V"⟩
abbrev cX5_meet : ByteArray := prog_7_method_7_code
def yX5_meet : MethodName := ⟨RX5, "meet", "(I)V"⟩
abbrev cX5_follow : ByteArray := prog_7_method_8_code
def yX5_follow : MethodName := ⟨RX5, "follow", "()V"⟩
abbrev cX5_reach : ByteArray := prog_7_method_9_code
def yX5_reach : MethodName := ⟨RX5, "reach", "()V"⟩
abbrev cX5_loosen : ByteArray := prog_7_method_10_code
def yX5_loosen : MethodName := ⟨RX5, "loosen", "()V"⟩
abbrev cX5_markNow : ByteArray := prog_7_method_11_code
def yX5_markNow : MethodName := ⟨RX5, "markNow", "()V"⟩
abbrev cX5_objectsIn : ByteArray := prog_7_method_12_code
def yX5_objectsIn : MethodName := ⟨RX5, "objectsIn", "(I)I"⟩
abbrev cX5_emptyIn : ByteArray := prog_7_method_13_code
def yX5_emptyIn : MethodName := ⟨RX5, "emptyIn", "(I)I"⟩
abbrev cX5_sweepBlock : ByteArray := prog_7_method_14_code
def yX5_sweepBlock : MethodName := ⟨RX5, "sweepBlock", "(I)V"⟩
abbrev cX5_emptyCell : ByteArray := prog_7_method_15_code
def yX5_emptyCell : MethodName := ⟨RX5, "emptyCell", "(I)I"⟩
abbrev cX5_takeFree : ByteArray := prog_7_method_16_code
def yX5_takeFree : MethodName := ⟨RX5, "takeFree", "(I)I"⟩
abbrev cX5_room : ByteArray := prog_7_method_17_code
def yX5_room : MethodName := ⟨RX5, "room", "(I)I"⟩
abbrev cX5_make : ByteArray := prog_7_method_18_code
def yX5_make : MethodName := ⟨RX5, "make", "(II)I"⟩
abbrev cX5_wrong : ByteArray := prog_7_method_19_code
def yX5_wrong : MethodName := ⟨RX5, "wrong", "(II)I"⟩
abbrev cX5_set : ByteArray := prog_7_method_20_code
def yX5_set : MethodName := ⟨RX5, "set", "(III)I"⟩
abbrev cX5_link : ByteArray := prog_7_method_21_code
def yX5_link : MethodName := ⟨RX5, "link", "(IIIZ)I"⟩
abbrev cX5_refers : ByteArray := prog_7_method_22_code
def yX5_refers : MethodName := ⟨RX5, "refers", "(II)I"⟩
abbrev cX5_number : ByteArray := prog_7_method_23_code
def yX5_number : MethodName := ⟨RX5, "number", "(II)I"⟩
abbrev cX5_load : ByteArray := prog_7_method_24_code
def yX5_load : MethodName := ⟨RX5, "load", "(III)I"⟩
abbrev cX5_nameOf : ByteArray := prog_7_method_25_code
def yX5_nameOf : MethodName := ⟨RX5, "nameOf", "(I)I"⟩
abbrev cX5_copy : ByteArray := prog_7_method_26_code
def yX5_copy : MethodName := ⟨RX5, "copy", "(II)I"⟩
abbrev cX5_drop : ByteArray := prog_7_method_27_code
def yX5_drop : MethodName := ⟨RX5, "drop", "(I)I"⟩
abbrev cX5_watch : ByteArray := prog_7_method_28_code
def yX5_watch : MethodName := ⟨RX5, "watch", "(IZ)I"⟩
abbrev cX5_next : ByteArray := prog_7_method_29_code
def yX5_next : MethodName := ⟨RX5, "next", "(I)I"⟩
abbrev cX5_mark : ByteArray := prog_7_method_30_code
def yX5_mark : MethodName := ⟨RX5, "mark", "()I"⟩
abbrev cX5_sweep : ByteArray := prog_7_method_31_code
def yX5_sweep : MethodName := ⟨RX5, "sweep", "()I"⟩
abbrev cX5_object : ByteArray := prog_7_method_32_code
def yX5_object : MethodName := ⟨RX5, "object", "(II)I"⟩
abbrev cX5_at : ByteArray := prog_7_method_33_code
def yX5_at : MethodName := ⟨RX5, "at", "(I)I"⟩
abbrev cX5_block : ByteArray := prog_7_method_34_code
def yX5_block : MethodName := ⟨RX5, "block", "(II)I"⟩
abbrev cX5_blocksThat : ByteArray := prog_7_method_35_code
def yX5_blocksThat : MethodName := ⟨RX5, "blocksThat", "(Z)I"⟩
abbrev cX5_objects : ByteArray := prog_7_method_36_code
def yX5_objects : MethodName := ⟨RX5, "objects", "(ZZ)I"⟩
abbrev cX5_count : ByteArray := prog_7_method_37_code
def yX5_count : MethodName := ⟨RX5, "count", "(I)I"⟩
abbrev cX5_same : ByteArray := prog_7_method_38_code
def yX5_same : MethodName := ⟨RX5, "same", "(II)I"⟩
abbrev cX5_sum : ByteArray := prog_7_method_39_code
def yX5_sum : MethodName := ⟨RX5, "sum", "(I)J"⟩
def RL : String := "LazyBlocksLaw"
abbrev cL_cell : ByteArray := method_2_code
def yL_cell : MethodName := ⟨RL, "cell", "([II)I"⟩
abbrev cL_law : ByteArray := code
def yL_law : MethodName := ⟨RL, "law", "([I)Z"⟩
abbrev xcl : List vw_C := [(RX0, TX0, 5), (RX1, TX1, 2), (RX2, TX2, 5), (RX3, TX3, 4), (RX4, TX4, 8), (RX5, TX5, 19)]
def xc_n (c : Nat) : String := (bif Nat.ble c 2 then (bif Nat.ble c 0 then RX0 else (bif Nat.ble c 1 then RX1 else RX2)) else (bif Nat.ble c 4 then (bif Nat.ble c 3 then RX3 else RX4) else (bif Nat.ble c 5 then RX5 else RL)))
def xc_T (c : Nat) : u_T := (bif Nat.ble c 2 then (bif Nat.ble c 0 then TX0 else (bif Nat.ble c 1 then TX1 else TX2)) else (bif Nat.ble c 3 then TX3 else (bif Nat.ble c 4 then TX4 else TX5)))
def xc_t (c : Nat) : Nat → FieldType := (bif Nat.ble c 2 then (bif Nat.ble c 0 then tyX0 else (bif Nat.ble c 1 then tyX1 else tyX2)) else (bif Nat.ble c 3 then tyX3 else (bif Nat.ble c 4 then tyX4 else tyX5)))
def xc_N (c : Nat) : Nat := (bif Nat.ble c 2 then (bif Nat.ble c 0 then 5 else (bif Nat.ble c 1 then 2 else 5)) else (bif Nat.ble c 3 then 4 else (bif Nat.ble c 4 then 8 else 19)))
end
section
/-! ABSTRACT WORLDS: a world is a list of cells, a reference is a place in it; 'ad' says at which address a place lies -/
abbrev xC : Type := (Bool × Nat × (Nat → Int32)) ⊕ (Nat × List Value)
abbrev xW : Type := List xC
abbrev xL : Type := List (Nat × Value)
def x_tr (ad : Nat → Nat) (v : Value) : Value := match v with
  | .ref k => .ref (ad k)
  | v => v
def x_trp (ad : Nat → Nat) (q : Nat × Value) : Nat × Value := (q.1, x_tr ad q.2)
def x_trE (cI cZ : ClassId) (ad : Nat → Nat) (e : xC) : va_E := match e with
  | .inl (z, n, f) => .inl (bif z then cZ else cI, n, .inl f)
  | .inr (ci, fs) => .inr (ci, fs.map (x_tr ad))
def x_rl (cI cZ : ClassId) (ad : Nat → Nat) : Nat → xW → va_W
  | _, [] => []
  | i, e :: w => (ad i, x_trE cI cZ ad e) :: x_rl cI cZ ad (i + 1) w
theorem x_rl_get (cI cZ : ClassId) (ad : Nat → Nat) : ∀ (w : xW) (i k : Nat), (x_rl cI cZ ad i w)[k]? = (w[k]?).map (fun e => (ad (i + k), x_trE cI cZ ad e))
  | [], i, k => by simp [x_rl]
  | e :: w, i, 0 => by simp [x_rl]
  | e :: w, i, k + 1 => by
    simp only [x_rl, List.getElem?_cons_succ]
    rw [x_rl_get cI cZ ad w (i + 1) k]
    rw [show i + 1 + k = i + (k + 1) by omega]
theorem x_rl_set (cI cZ : ClassId) (ad : Nat → Nat) (e : xC) : ∀ (w : xW) (i k : Nat), (x_rl cI cZ ad i w).set k (ad (i + k), x_trE cI cZ ad e) = x_rl cI cZ ad i (w.set k e)
  | [], i, k => by simp [x_rl]
  | e0 :: w, i, 0 => by simp [x_rl]
  | e0 :: w, i, k + 1 => by
    simp only [x_rl, List.set_cons_succ]
    rw [← x_rl_set cI cZ ad e w (i + 1) k, show i + 1 + k = i + (k + 1) by omega]
theorem x_rl_app (cI cZ : ClassId) (ad : Nat → Nat) (e : xC) : ∀ (w : xW) (i : Nat), x_rl cI cZ ad i (w ++ [e]) = x_rl cI cZ ad i w ++ [(ad (i + w.length), x_trE cI cZ ad e)]
  | [], i => by simp [x_rl]
  | e0 :: w, i => by
    simp only [x_rl, List.cons_append, List.length_cons]
    rw [x_rl_app cI cZ ad e w (i + 1), show i + 1 + w.length = i + (w.length + 1) by omega]
theorem x_rl_at {cI cZ : ClassId} {ad : Nat → Nat} {w : xW} {k : Nat} {e : xC} (h : w[k]? = some e) : (x_rl cI cZ ad 0 w)[k]? = some (ad k, x_trE cI cZ ad e) := by
  rw [x_rl_get, h]
  simp
theorem x_rl_put {cI cZ : ClassId} {ad : Nat → Nat} {w : xW} {k : Nat} {e : xC} : (x_rl cI cZ ad 0 w).set k (ad k, x_trE cI cZ ad e) = x_rl cI cZ ad 0 (w.set k e) := by
  have h := x_rl_set cI cZ ad e w 0 k
  rwa [Nat.zero_add] at h
/-- values that speak of places below n alone (999: the script) -/
def x_okv (n : Nat) (v : Value) : Bool := match v with
  | .ref k => Nat.ble (k + 1) n || Nat.beq k 999
  | _ => true
def x_okE (n : Nat) (e : xC) : Bool := match e with
  | .inl _ => true
  | .inr (_, fs) => fs.all (x_okv n)
/-- two address books say the same of the places below n -/
def x_ag (n : Nat) (ad ad' : Nat → Nat) : Prop := (∀ i, i < n → ad' i = ad i) ∧ ad' 999 = ad 999
theorem x_ag.rf (n : Nat) (ad : Nat → Nat) : x_ag n ad ad := ⟨fun _ _ => rfl, rfl⟩
theorem x_ag.tr {n n' : Nat} {a b c : Nat → Nat} (h : x_ag n a b) (h2 : x_ag n' b c) (hn : n ≤ n') : x_ag n a c := ⟨fun i hi => (h2.1 i (Nat.lt_of_lt_of_le hi hn)).trans (h.1 i hi), h2.2.trans h.2⟩
theorem x_tr_ag {n : Nat} {ad ad' : Nat → Nat} (h : x_ag n ad ad') {v : Value} (hv : x_okv n v = true) : x_tr ad' v = x_tr ad v := by
  cases v with
  | ref k =>
    simp only [x_okv, Bool.or_eq_true, Nat.ble_eq] at hv
    rcases hv with hv | hv
    · simp only [x_tr, h.1 k hv]
    · have hv := Nat.eq_of_beq_eq_true hv
      subst hv
      simp only [x_tr, h.2]
  | _ => rfl
theorem x_trL_ag {n : Nat} {ad ad' : Nat → Nat} (h : x_ag n ad ad') {vs : List Value} (hv : vs.all (x_okv n) = true) : vs.map (x_tr ad') = vs.map (x_tr ad) :=
  List.map_congr_left fun v hm => x_tr_ag h (List.all_eq_true.mp hv v hm)
theorem x_trl_ag {n : Nat} {ad ad' : Nat → Nat} (h : x_ag n ad ad') {ls : xL} (hv : ls.all (fun q => x_okv n q.2) = true) : ls.map (x_trp ad') = ls.map (x_trp ad) :=
  List.map_congr_left fun v hm => by simp only [x_trp, x_tr_ag h (List.all_eq_true.mp hv v hm)]
theorem x_rl_ag {n : Nat} {cI cZ : ClassId} {ad ad' : Nat → Nat} (h : x_ag n ad ad') : ∀ (w : xW) (i : Nat), i + w.length ≤ n → w.all (x_okE n) = true → x_rl cI cZ ad' i w = x_rl cI cZ ad i w
  | [], _, _, _ => rfl
  | e :: w, i, hn, hw => by
    simp only [List.all_cons, Bool.and_eq_true] at hw
    simp only [List.length_cons] at hn
    simp only [x_rl]
    rw [x_rl_ag h w (i + 1) (by omega) hw.2, h.1 i (by omega)]
    congr 2
    cases e with
    | inl x => rfl
    | inr x => simp only [x_trE]; rw [x_trL_ag h hw.1]
/-! locals -/
def x_c2 (v : Value) : Bool := match v with
  | .long _ => true
  | .double _ => true
  | _ => false
theorem x_beq (a b : Nat) : Nat.beq a b = (a == b) := by
  rw [Bool.eq_iff_iff]
  simp
theorem x_c2_cat (v : Value) : x_c2 v = (v.category == 2) := by cases v <;> rfl
theorem x_cat (ad : Nat → Nat) (v : Value) : (x_tr ad v).category = v.category := by cases v <;> rfl
def x_lk (i : Nat) : xL → Option Value
  | [] => none
  | q :: r => bif Nat.beq q.1 i then some q.2 else x_lk i r
theorem x_lk_mem {i : Nat} {v : Value} : ∀ {ls : xL}, x_lk i ls = some v → (i, v) ∈ ls
  | [], h => by simp [x_lk] at h
  | q :: r, h => by
    simp only [x_lk] at h
    cases hq : Nat.beq q.1 i with
    | true =>
      rw [hq, cond_true] at h
      have := Nat.eq_of_beq_eq_true hq
      cases h
      subst this
      exact List.mem_cons_self
    | false =>
      rw [hq, cond_false] at h
      exact List.mem_cons_of_mem _ (x_lk_mem h)
def x_keep (i : Nat) (c : Bool) (q : Nat × Value) : Bool := !(Nat.beq q.1 i) && !(Nat.beq (q.1 + 1) i && x_c2 q.2) && !(c && Nat.beq q.1 (i + 1))
def x_ins (i : Nat) (v : Value) : xL → xL
  | [] => [(i, v)]
  | q :: r => bif Nat.ble q.1 i then q :: x_ins i v r else (i, v) :: q :: r
def x_st (i : Nat) (v : Value) (ls : xL) : xL := x_ins i v (ls.filter (x_keep i (x_c2 v)))
theorem x_ins_mem {i : Nat} {v : Value} {q : Nat × Value} : ∀ {ls : xL}, q ∈ x_ins i v ls → q = (i, v) ∨ q ∈ ls
  | [], h => by simp [x_ins] at h; exact Or.inl h
  | p :: r, h => by
    simp only [x_ins] at h
    cases hq : Nat.ble p.1 i with
    | true =>
      rw [hq, cond_true] at h
      rcases List.mem_cons.mp h with h | h
      · exact Or.inr (by rw [h]; exact List.mem_cons_self)
      · rcases x_ins_mem h with h | h
        · exact Or.inl h
        · exact Or.inr (List.mem_cons_of_mem _ h)
    | false =>
      rw [hq, cond_false] at h
      rcases List.mem_cons.mp h with h | h
      · exact Or.inl h
      · exact Or.inr h
def x_nf {α β : Type} : List α → (List α → β) → β
  | [], c => c []
  | a :: l, c => x_nf l (fun l' => c (a :: l'))
theorem x_nf_eq {α β : Type} : ∀ (l : List α) (c : List α → β), x_nf l c = c l
  | [], c => rfl
  | a :: l, c => by rw [x_nf, x_nf_eq l]
/-- storing a value of one word -/
theorem x_store1 {ad : Nat → Nat} {La La' : Array Slot} {nL i : Nat} {v : Value} {ls : xL} (hc : x_c2 v = false) (h : lv_has La' nL ((i, x_tr ad v) :: (ls.map (x_trp ad)).filter (fun q => !(q.1 == i) && !(q.1 + 1 == i && q.2.category == 2)))) : lv_has La' nL ((x_st i v ls).map (x_trp ad)) := by
  refine ⟨h.1, h.2.1, fun q hq => h.2.2 q ?_⟩
  obtain ⟨p, hp, rfl⟩ := List.mem_map.mp hq
  rcases x_ins_mem hp with rfl | hp
  · exact List.mem_cons_self
  · refine List.mem_cons_of_mem _ (List.mem_filter.mpr ⟨List.mem_map.mpr ⟨p, (List.mem_filter.mp hp).1, rfl⟩, ?_⟩)
    have hk := (List.mem_filter.mp hp).2
    simp only [x_keep, hc, Bool.false_and, Bool.not_false, Bool.and_true, x_c2_cat, x_beq] at hk
    simp only [x_trp, x_cat]
    exact hk
theorem x_store2 {ad : Nat → Nat} {La La' : Array Slot} {nL i : Nat} {v : Value} {ls : xL} (hc : x_c2 v = true) (h : lv_has La' nL ((i, x_tr ad v) :: (ls.map (x_trp ad)).filter (fun q => !(q.1 == i) && (!(q.1 == i + 1) && !(q.1 + 1 == i && q.2.category == 2))))) : lv_has La' nL ((x_st i v ls).map (x_trp ad)) := by
  refine ⟨h.1, h.2.1, fun q hq => h.2.2 q ?_⟩
  obtain ⟨p, hp, rfl⟩ := List.mem_map.mp hq
  rcases x_ins_mem hp with rfl | hp
  · exact List.mem_cons_self
  · refine List.mem_cons_of_mem _ (List.mem_filter.mpr ⟨List.mem_map.mpr ⟨p, (List.mem_filter.mp hp).1, rfl⟩, ?_⟩)
    have hk := (List.mem_filter.mp hp).2
    simp only [x_keep, hc, Bool.true_and, x_c2_cat, x_beq, Bool.and_eq_true] at hk
    simp only [x_trp, x_cat, Bool.and_eq_true]
    exact ⟨hk.1.1, hk.2, hk.1.2⟩
theorem x_has_at {ad : Nat → Nat} {La : Array Slot} {nL i : Nat} {v : Value} {ls : xL} (h : lv_has La nL (ls.map (x_trp ad))) (hl : x_lk i ls = some v) : La[i]? = some (.val (x_tr ad v)) :=
  h.2.2 (i, x_tr ad v) (List.mem_map.mpr ⟨(i, v), x_lk_mem hl, rfl⟩)
theorem x_args_tr (ad : Nat → Nat) : ∀ (vs : List Value) (i : Nat), lv_args i (vs.map (x_tr ad)) = (lv_args i vs).map (x_trp ad)
  | [], i => rfl
  | v :: vs, i => by
    simp only [List.map_cons, lv_args, x_cat]
    rw [x_args_tr ad vs]
    rfl
end
section
/-! an entry of a method's table: at pc stands an instruction, the next one stands at nx, and two numbers: a jump's target; a field's class and slot; a called method's number; a long constant -/
abbrev xQ : Type := Instr × Nat × Nat × Nat
def x_ci (i : Int) : Int32 := match i with
  | .ofNat m => nI m
  | .negSucc 0 => -1
  | .negSucc 1 => -2
  | .negSucc 2 => -3
  | .negSucc 3 => -4
  | .negSucc m => -(nI (m + 1))
def x_cif {β : Type} (i : Int) (c : Int32 → β) : β := match i with
  | .ofNat m => c (nI m)
  | .negSucc 0 => c (-1)
  | .negSucc 1 => c (-2)
  | .negSucc 2 => c (-3)
  | .negSucc 3 => c (-4)
  | .negSucc m => c (-(nI (m + 1)))
theorem x_cif_eq {β : Type} (i : Int) (c : Int32 → β) : x_cif i c = c (x_ci i) := by
  unfold x_cif x_ci
  split <;> rfl
def x_len (ins : Instr) (b : Nat) : Nat := match ins with
  | .bipush _ => 2
  | .sipush _ => 3
  | .ldc2_w _ => 3
  | .iload _ => 2
  | .aload _ => 2
  | .lload _ => 2
  | .istore _ => 2
  | .astore _ => 2
  | .lstore _ => 2
  | .iinc _ _ => 3
  | .getfield _ => 3
  | .putfield _ => 3
  | .invokevirtual _ => 3
  | .invokestatic _ => 3
  | .invokespecial _ => 3
  | .new _ => 3
  | .newarray _ => 2
  | .goto _ => 3
  | .ifCond _ _ => 3
  | .if_icmp _ _ => 3
  | .tableswitch _ _ _ _ => b
  | .lookupswitch _ _ => b
  | _ => 1
def x_cLf {β : Type} (a : Nat) (c : Int64 → β) : β := bif Nat.ble 1000000 a then c (-(lN (a - 1000000))) else c (lN a)
def x_cL (a : Nat) : Int64 := bif Nat.ble 1000000 a then -(lN (a - 1000000)) else lN a
theorem x_cLf_eq {β : Type} (a : Nat) (c : Int64 → β) : x_cLf a c = c (x_cL a) := by
  unfold x_cLf x_cL
  cases Nat.ble 1000000 a <;> rfl
abbrev xM : Type := MethodName × ByteArray × Nat × Option FieldType × Room × (Bool × Bool) × Nat × List (Nat × xQ)
def xm_0 : xM := (yX0_init, cX0_init, 5, none, { frames := 1, cells := 2, slots := 32, locals := 30 }, (true, true), 0, [(0, .aload_n 0, 1, 0, 0), (1, .invokespecial 3, 4, 900, 0), (4, .aload_n 0, 5, 0, 0), (5, .aload_n 2, 6, 0, 0), (6, .putfield 9, 9, 0, 0), (9, .aload_n 0, 10, 0, 0), (10, .aload_n 3, 11, 0, 0), (11, .putfield 15, 14, 0, 1), (14, .aload_n 0, 15, 0, 0), (15, .iload_n 1, 16, 0, 0), (16, .newarray .int, 18, 0, 0), (18, .putfield 19, 21, 0, 2), (21, .aload_n 0, 22, 0, 0), (22, .iload_n 1, 23, 0, 0), (23, .newarray .boolean, 25, 0, 0), (25, .putfield 23, 28, 0, 3), (28, .iconst (Int.ofNat 0), 29, 0, 0), (29, .istore 4, 31, 0, 0), (31, .iload 4, 33, 0, 0), (33, .iload_n 1, 34, 0, 0), (34, .if_icmp .ge (Int.ofNat 17), 37, 51, 0), (37, .aload_n 0, 38, 0, 0), (38, .getfield 19, 41, 0, 2), (41, .iload 4, 43, 0, 0), (43, .iconst (Int.negSucc 0), 44, 0, 0), (44, .iastore, 45, 0, 0), (45, .iinc 4 (Int.ofNat 1), 48, 0, 0), (48, .goto (Int.negSucc 16), 51, 31, 0), (51, .return_, 52, 0, 0)])
def xm_1 : xM := (yX0_has, cX0_has, 2, (some .boolean), { frames := 0, cells := 0, slots := 0, locals := 0 }, (false, false), 0, [(0, .iload_n 1, 1, 0, 0), (1, .ifCond .lt (Int.ofNat 16), 4, 17, 0), (4, .iload_n 1, 5, 0, 0), (5, .aload_n 0, 6, 0, 0), (6, .getfield 19, 9, 0, 2), (9, .arraylength, 10, 0, 0), (10, .if_icmp .ge (Int.ofNat 7), 13, 17, 0), (13, .iconst (Int.ofNat 1), 14, 0, 0), (14, .goto (Int.ofNat 4), 17, 18, 0), (17, .iconst (Int.ofNat 0), 18, 0, 0), (18, .ireturn, 19, 0, 0)])
def xm_2 : xM := (yX0_classOf, cX0_classOf, 2, (some .int), { frames := 0, cells := 0, slots := 0, locals := 0 }, (false, false), 0, [(0, .iload_n 1, 1, 0, 0), (1, .ifCond .lt (Int.ofNat 21), 4, 22, 0), (4, .iload_n 1, 5, 0, 0), (5, .aload_n 0, 6, 0, 0), (6, .getfield 19, 9, 0, 2), (9, .arraylength, 10, 0, 0), (10, .if_icmp .ge (Int.ofNat 12), 13, 22, 0), (13, .aload_n 0, 14, 0, 0), (14, .getfield 19, 17, 0, 2), (17, .iload_n 1, 18, 0, 0), (18, .iaload, 19, 0, 0), (19, .goto (Int.ofNat 4), 22, 23, 0), (22, .iconst (Int.negSucc 0), 23, 0, 0), (23, .ireturn, 24, 0, 0)])
def xm_3 : xM := (yX0_isUnswept, cX0_isUnswept, 2, (some .boolean), { frames := 1, cells := 0, slots := 0, locals := 21 }, (false, false), 0, [(0, .aload_n 0, 1, 0, 0), (1, .iload_n 1, 2, 0, 0), (2, .invokevirtual 27, 5, 1, 1), (5, .ifCond .eq (Int.ofNat 16), 8, 21, 0), (8, .aload_n 0, 9, 0, 0), (9, .getfield 23, 12, 0, 3), (12, .iload_n 1, 13, 0, 0), (13, .baload, 14, 0, 0), (14, .ifCond .eq (Int.ofNat 7), 17, 21, 0), (17, .iconst (Int.ofNat 1), 18, 0, 0), (18, .goto (Int.ofNat 4), 21, 22, 0), (21, .iconst (Int.ofNat 0), 22, 0, 0), (22, .ireturn, 23, 0, 0)])
def xm_4 : xM := (yX0_sweepsDone, cX0_sweepsDone, 1, (some .int), { frames := 0, cells := 0, slots := 0, locals := 0 }, (false, false), 0, [(0, .aload_n 0, 1, 0, 0), (1, .getfield 31, 4, 0, 4), (4, .ireturn, 5, 0, 0)])
def xm_5 : xM := (yX0_cellsIn, cX0_cellsIn, 3, (some .int), { frames := 1, cells := 0, slots := 0, locals := 21 }, (false, false), 0, [(0, .aload_n 0, 1, 0, 0), (1, .iload_n 1, 2, 0, 0), (2, .invokevirtual 35, 5, 2, 1), (5, .istore_n 2, 6, 0, 0), (6, .iload_n 2, 7, 0, 0), (7, .iconst (Int.negSucc 0), 8, 0, 0), (8, .if_icmp .ne (Int.ofNat 7), 11, 15, 0), (11, .iconst (Int.ofNat 0), 12, 0, 0), (12, .goto (Int.ofNat 7), 15, 19, 0), (15, .iload_n 2, 16, 0, 0), (16, .invokestatic 39, 19, 71, 1), (19, .ireturn, 20, 0, 0)])
def xm_6 : xM := (yX0_cellOf, cX0_cellOf, 4, (some .int), { frames := 1, cells := 0, slots := 0, locals := 21 }, (false, false), 0, [(0, .aload_n 0, 1, 0, 0), (1, .iload_n 1, 2, 0, 0), (2, .invokevirtual 35, 5, 2, 1), (5, .istore_n 3, 6, 0, 0), (6, .iload_n 3, 7, 0, 0), (7, .iconst (Int.negSucc 0), 8, 0, 0), (8, .if_icmp .ne (Int.ofNat 7), 11, 15, 0), (11, .iconst (Int.negSucc 0), 12, 0, 0), (12, .goto (Int.ofNat 14), 15, 26, 0), (15, .iload_n 1, 16, 0, 0), (16, .bipush (Int.ofNat 32), 18, 0, 0), (18, .imul, 19, 0, 0), (19, .iload_n 2, 20, 0, 0), (20, .iload_n 3, 21, 0, 0), (21, .invokestatic 42, 24, 70, 1), (24, .imul, 25, 0, 0), (25, .iadd, 26, 0, 0), (26, .ireturn, 27, 0, 0)])
def xm_7 : xM := (yX0_cellAround, cX0_cellAround, 3, (some .int), { frames := 1, cells := 0, slots := 0, locals := 21 }, (false, false), 0, [(0, .aload_n 0, 1, 0, 0), (1, .iload_n 1, 2, 0, 0), (2, .bipush (Int.ofNat 32), 4, 0, 0), (4, .idiv, 5, 0, 0), (5, .invokevirtual 35, 8, 2, 1), (8, .istore_n 2, 9, 0, 0), (9, .iload_n 2, 10, 0, 0), (10, .iconst (Int.negSucc 0), 11, 0, 0), (11, .if_icmp .ne (Int.ofNat 7), 14, 18, 0), (14, .iconst (Int.negSucc 0), 15, 0, 0), (15, .goto (Int.ofNat 10), 18, 25, 0), (18, .iload_n 1, 19, 0, 0), (19, .iload_n 2, 20, 0, 0), (20, .invokestatic 42, 23, 70, 1), (23, .ineg, 24, 0, 0), (24, .iand, 25, 0, 0), (25, .ireturn, 26, 0, 0)])
def xm_8 : xM := (yX0_objectsIn, cX0_objectsIn, 5, (some .int), { frames := 2, cells := 0, slots := 0, locals := 44 }, (false, false), 0, [(0, .iconst (Int.ofNat 0), 1, 0, 0), (1, .istore_n 2, 2, 0, 0), (2, .aload_n 0, 3, 0, 0), (3, .iload_n 1, 4, 0, 0), (4, .invokevirtual 45, 7, 5, 1), (7, .istore_n 3, 8, 0, 0), (8, .iconst (Int.ofNat 0), 9, 0, 0), (9, .istore 4, 11, 0, 0), (11, .iload 4, 13, 0, 0), (13, .iload_n 3, 14, 0, 0), (14, .if_icmp .ge (Int.ofNat 38), 17, 52, 0), (17, .iload_n 2, 18, 0, 0), (18, .aload_n 0, 19, 0, 0), (19, .getfield 9, 22, 0, 0), (22, .aload_n 0, 23, 0, 0), (23, .iload_n 1, 24, 0, 0), (24, .iload 4, 26, 0, 0), (26, .invokevirtual 48, 29, 6, 2), (29, .invokevirtual 52, 32, 32, 1), (32, .iconst (Int.negSucc 0), 33, 0, 0), (33, .if_icmp .eq (Int.ofNat 7), 36, 40, 0), (36, .iconst (Int.ofNat 1), 37, 0, 0), (37, .goto (Int.ofNat 4), 40, 41, 0), (40, .iconst (Int.ofNat 0), 41, 0, 0), (41, .invokestatic 57, 44, 69, 1), (44, .iadd, 45, 0, 0), (45, .istore_n 2, 46, 0, 0), (46, .iinc 4 (Int.ofNat 1), 49, 0, 0), (49, .goto (Int.negSucc 37), 52, 11, 0), (52, .iload_n 2, 53, 0, 0), (53, .ireturn, 54, 0, 0)])
def xm_9 : xM := (yX0_emptyCellsIn, cX0_emptyCellsIn, 2, (some .int), { frames := 3, cells := 0, slots := 0, locals := 68 }, (false, false), 0, [(0, .aload_n 0, 1, 0, 0), (1, .iload_n 1, 2, 0, 0), (2, .invokevirtual 45, 5, 5, 1), (5, .aload_n 0, 6, 0, 0), (6, .iload_n 1, 7, 0, 0), (7, .invokevirtual 61, 10, 8, 1), (10, .isub, 11, 0, 0), (11, .ireturn, 12, 0, 0)])
def xm_10 : xM := (yX0_objects, cX0_objects, 3, (some .int), { frames := 3, cells := 0, slots := 0, locals := 68 }, (false, false), 0, [(0, .iconst (Int.ofNat 0), 1, 0, 0), (1, .istore_n 1, 2, 0, 0), (2, .iconst (Int.ofNat 0), 3, 0, 0), (3, .istore_n 2, 4, 0, 0), (4, .iload_n 2, 5, 0, 0), (5, .aload_n 0, 6, 0, 0), (6, .getfield 19, 9, 0, 2), (9, .arraylength, 10, 0, 0), (10, .if_icmp .ge (Int.ofNat 17), 13, 27, 0), (13, .iload_n 1, 14, 0, 0), (14, .aload_n 0, 15, 0, 0), (15, .iload_n 2, 16, 0, 0), (16, .invokevirtual 61, 19, 8, 1), (19, .iadd, 20, 0, 0), (20, .istore_n 1, 21, 0, 0), (21, .iinc 2 (Int.ofNat 1), 24, 0, 0), (24, .goto (Int.negSucc 19), 27, 4, 0), (27, .iload_n 1, 28, 0, 0), (28, .ireturn, 29, 0, 0)])
def xm_11 : xM := (yX0_usedWords, cX0_usedWords, 3, (some .int), { frames := 3, cells := 0, slots := 0, locals := 68 }, (false, false), 0, [(0, .iconst (Int.ofNat 0), 1, 0, 0), (1, .istore_n 1, 2, 0, 0), (2, .iconst (Int.ofNat 0), 3, 0, 0), (3, .istore_n 2, 4, 0, 0), (4, .iload_n 2, 5, 0, 0), (5, .aload_n 0, 6, 0, 0), (6, .getfield 19, 9, 0, 2), (9, .arraylength, 10, 0, 0), (10, .if_icmp .ge (Int.ofNat 37), 13, 47, 0), (13, .aload_n 0, 14, 0, 0), (14, .getfield 19, 17, 0, 2), (17, .iload_n 2, 18, 0, 0), (18, .iaload, 19, 0, 0), (19, .iconst (Int.negSucc 0), 20, 0, 0), (20, .if_icmp .eq (Int.ofNat 21), 23, 41, 0), (23, .iload_n 1, 24, 0, 0), (24, .aload_n 0, 25, 0, 0), (25, .iload_n 2, 26, 0, 0), (26, .invokevirtual 61, 29, 8, 1), (29, .aload_n 0, 30, 0, 0), (30, .getfield 19, 33, 0, 2), (33, .iload_n 2, 34, 0, 0), (34, .iaload, 35, 0, 0), (35, .invokestatic 42, 38, 70, 1), (38, .imul, 39, 0, 0), (39, .iadd, 40, 0, 0), (40, .istore_n 1, 41, 0, 0), (41, .iinc 2 (Int.ofNat 1), 44, 0, 0), (44, .goto (Int.negSucc 39), 47, 4, 0), (47, .iload_n 1, 48, 0, 0), (48, .ireturn, 49, 0, 0)])
def xm_12 : xM := (yX0_freeBlocks, cX0_freeBlocks, 3, (some .int), { frames := 1, cells := 0, slots := 0, locals := 20 }, (false, false), 0, [(0, .iconst (Int.ofNat 0), 1, 0, 0), (1, .istore_n 1, 2, 0, 0), (2, .iconst (Int.ofNat 0), 3, 0, 0), (3, .istore_n 2, 4, 0, 0), (4, .iload_n 2, 5, 0, 0), (5, .aload_n 0, 6, 0, 0), (6, .getfield 19, 9, 0, 2), (9, .arraylength, 10, 0, 0), (10, .if_icmp .ge (Int.ofNat 30), 13, 40, 0), (13, .iload_n 1, 14, 0, 0), (14, .aload_n 0, 15, 0, 0), (15, .getfield 19, 18, 0, 2), (18, .iload_n 2, 19, 0, 0), (19, .iaload, 20, 0, 0), (20, .iconst (Int.negSucc 0), 21, 0, 0), (21, .if_icmp .ne (Int.ofNat 7), 24, 28, 0), (24, .iconst (Int.ofNat 1), 25, 0, 0), (25, .goto (Int.ofNat 4), 28, 29, 0), (28, .iconst (Int.ofNat 0), 29, 0, 0), (29, .invokestatic 57, 32, 69, 1), (32, .iadd, 33, 0, 0), (33, .istore_n 1, 34, 0, 0), (34, .iinc 2 (Int.ofNat 1), 37, 0, 0), (37, .goto (Int.negSucc 32), 40, 4, 0), (40, .iload_n 1, 41, 0, 0), (41, .ireturn, 42, 0, 0)])
def xm_13 : xM := (yX0_unsweptBlocks, cX0_unsweptBlocks, 3, (some .int), { frames := 2, cells := 0, slots := 0, locals := 42 }, (false, false), 0, [(0, .iconst (Int.ofNat 0), 1, 0, 0), (1, .istore_n 1, 2, 0, 0), (2, .iconst (Int.ofNat 0), 3, 0, 0), (3, .istore_n 2, 4, 0, 0), (4, .iload_n 2, 5, 0, 0), (5, .aload_n 0, 6, 0, 0), (6, .getfield 19, 9, 0, 2), (9, .arraylength, 10, 0, 0), (10, .if_icmp .ge (Int.ofNat 20), 13, 30, 0), (13, .iload_n 1, 14, 0, 0), (14, .aload_n 0, 15, 0, 0), (15, .iload_n 2, 16, 0, 0), (16, .invokevirtual 64, 19, 3, 1), (19, .invokestatic 57, 22, 69, 1), (22, .iadd, 23, 0, 0), (23, .istore_n 1, 24, 0, 0), (24, .iinc 2 (Int.ofNat 1), 27, 0, 0), (27, .goto (Int.negSucc 22), 30, 4, 0), (30, .iload_n 1, 31, 0, 0), (31, .ireturn, 32, 0, 0)])
def xm_14 : xM := (yX0_firstUnswept, cX0_firstUnswept, 2, (some .int), { frames := 2, cells := 0, slots := 0, locals := 42 }, (false, false), 0, [(0, .iconst (Int.ofNat 0), 1, 0, 0), (1, .istore_n 1, 2, 0, 0), (2, .iload_n 1, 3, 0, 0), (3, .aload_n 0, 4, 0, 0), (4, .getfield 19, 7, 0, 2), (7, .arraylength, 8, 0, 0), (8, .if_icmp .ge (Int.ofNat 19), 11, 27, 0), (11, .aload_n 0, 12, 0, 0), (12, .iload_n 1, 13, 0, 0), (13, .invokevirtual 64, 16, 3, 1), (16, .ifCond .eq (Int.ofNat 5), 19, 21, 0), (19, .iload_n 1, 20, 0, 0), (20, .ireturn, 21, 0, 0), (21, .iinc 1 (Int.ofNat 1), 24, 0, 0), (24, .goto (Int.negSucc 21), 27, 2, 0), (27, .iconst (Int.negSucc 0), 28, 0, 0), (28, .ireturn, 29, 0, 0)])
def xm_15 : xM := (yX0_unsweepAll, cX0_unsweepAll, 2, none, { frames := 0, cells := 0, slots := 0, locals := 0 }, (false, false), 0, [(0, .iconst (Int.ofNat 0), 1, 0, 0), (1, .istore_n 1, 2, 0, 0), (2, .iload_n 1, 3, 0, 0), (3, .aload_n 0, 4, 0, 0), (4, .getfield 19, 7, 0, 2), (7, .arraylength, 8, 0, 0), (8, .if_icmp .ge (Int.ofNat 39), 11, 47, 0), (11, .iload_n 1, 12, 0, 0), (12, .aload_n 0, 13, 0, 0), (13, .getfield 23, 16, 0, 3), (16, .arraylength, 17, 0, 0), (17, .if_icmp .ge (Int.ofNat 30), 20, 47, 0), (20, .aload_n 0, 21, 0, 0), (21, .getfield 23, 24, 0, 3), (24, .iload_n 1, 25, 0, 0), (25, .aload_n 0, 26, 0, 0), (26, .getfield 19, 29, 0, 2), (29, .iload_n 1, 30, 0, 0), (30, .iaload, 31, 0, 0), (31, .iconst (Int.negSucc 0), 32, 0, 0), (32, .if_icmp .eq (Int.ofNat 7), 35, 39, 0), (35, .iconst (Int.ofNat 1), 36, 0, 0), (36, .goto (Int.ofNat 4), 39, 40, 0), (39, .iconst (Int.ofNat 0), 40, 0, 0), (40, .bastore, 41, 0, 0), (41, .iinc 1 (Int.ofNat 1), 44, 0, 0), (44, .goto (Int.negSucc 41), 47, 2, 0), (47, .return_, 48, 0, 0)])
def xm_16 : xM := (yX0_clean, cX0_clean, 6, none, { frames := 2, cells := 0, slots := 0, locals := 44 }, (false, false), 0, [(0, .aload_n 0, 1, 0, 0), (1, .iload_n 1, 2, 0, 0), (2, .invokevirtual 64, 5, 3, 1), (5, .ifCond .ne (Int.ofNat 4), 8, 9, 0), (8, .return_, 9, 0, 0), (9, .iconst (Int.ofNat 0), 10, 0, 0), (10, .istore_n 2, 11, 0, 0), (11, .aload_n 0, 12, 0, 0), (12, .iload_n 1, 13, 0, 0), (13, .invokevirtual 45, 16, 5, 1), (16, .istore_n 3, 17, 0, 0), (17, .iconst (Int.ofNat 0), 18, 0, 0), (18, .istore 4, 20, 0, 0), (20, .iload 4, 22, 0, 0), (22, .iload_n 3, 23, 0, 0), (23, .if_icmp .ge (Int.ofNat 45), 26, 68, 0), (26, .aload_n 0, 27, 0, 0), (27, .iload_n 1, 28, 0, 0), (28, .iload 4, 30, 0, 0), (30, .invokevirtual 48, 33, 6, 2), (33, .istore 5, 35, 0, 0), (35, .aload_n 0, 36, 0, 0), (36, .getfield 15, 39, 0, 1), (39, .iload 5, 41, 0, 0), (41, .invokevirtual 67, 44, 46, 1), (44, .ifCond .eq (Int.ofNat 9), 47, 53, 0), (47, .iinc 2 (Int.ofNat 1), 50, 0, 0), (50, .goto (Int.ofNat 12), 53, 62, 0), (53, .aload_n 0, 54, 0, 0), (54, .getfield 9, 57, 0, 0), (57, .iload 5, 59, 0, 0), (59, .invokevirtual 70, 62, 40, 1), (62, .iinc 4 (Int.ofNat 1), 65, 0, 0), (65, .goto (Int.negSucc 44), 68, 20, 0), (68, .aload_n 0, 69, 0, 0), (69, .getfield 23, 72, 0, 3), (72, .iload_n 1, 73, 0, 0), (73, .iconst (Int.ofNat 0), 74, 0, 0), (74, .bastore, 75, 0, 0), (75, .aload_n 0, 76, 0, 0), (76, .dup, 77, 0, 0), (77, .getfield 31, 80, 0, 4), (80, .iconst (Int.ofNat 1), 81, 0, 0), (81, .iadd, 82, 0, 0), (82, .putfield 31, 85, 0, 4), (85, .iload_n 2, 86, 0, 0), (86, .ifCond .ne (Int.ofNat 10), 89, 96, 0), (89, .aload_n 0, 90, 0, 0), (90, .getfield 19, 93, 0, 2), (93, .iload_n 1, 94, 0, 0), (94, .iconst (Int.negSucc 0), 95, 0, 0), (95, .iastore, 96, 0, 0), (96, .return_, 97, 0, 0)])
def xm_17 : xM := (yX0_findCell, cX0_findCell, 4, (some .int), { frames := 4, cells := 0, slots := 0, locals := 91 }, (false, false), 0, [(0, .aload_n 0, 1, 0, 0), (1, .iload_n 1, 2, 0, 0), (2, .invokevirtual 74, 5, 18, 1), (5, .istore_n 2, 6, 0, 0), (6, .iload_n 2, 7, 0, 0), (7, .iconst (Int.negSucc 0), 8, 0, 0), (8, .if_icmp .ne (Int.ofNat 14), 11, 22, 0), (11, .aload_n 0, 12, 0, 0), (12, .iload_n 1, 13, 0, 0), (13, .invokevirtual 77, 16, 20, 1), (16, .aload_n 0, 17, 0, 0), (17, .iload_n 1, 18, 0, 0), (18, .invokevirtual 74, 21, 18, 1), (21, .istore_n 2, 22, 0, 0), (22, .iload_n 2, 23, 0, 0), (23, .iconst (Int.negSucc 0), 24, 0, 0), (24, .if_icmp .eq (Int.ofNat 5), 27, 29, 0), (27, .iload_n 2, 28, 0, 0), (28, .ireturn, 29, 0, 0), (29, .aload_n 0, 30, 0, 0), (30, .invokevirtual 80, 33, 22, 0), (33, .istore_n 3, 34, 0, 0), (34, .iload_n 3, 35, 0, 0), (35, .iconst (Int.negSucc 0), 36, 0, 0), (36, .if_icmp .ne (Int.ofNat 9), 39, 45, 0), (39, .aload_n 0, 40, 0, 0), (40, .iload_n 1, 41, 0, 0), (41, .invokevirtual 84, 44, 21, 1), (44, .istore_n 3, 45, 0, 0), (45, .aload_n 0, 46, 0, 0), (46, .iload_n 3, 47, 0, 0), (47, .iload_n 1, 48, 0, 0), (48, .invokevirtual 87, 51, 23, 2), (51, .ireturn, 52, 0, 0)])
def xm_18 : xM := (yX0_emptyCell, cX0_emptyCell, 4, (some .int), { frames := 3, cells := 0, slots := 0, locals := 68 }, (false, false), 0, [(0, .iconst (Int.ofNat 0), 1, 0, 0), (1, .istore_n 2, 2, 0, 0), (2, .iload_n 2, 3, 0, 0), (3, .aload_n 0, 4, 0, 0), (4, .getfield 19, 7, 0, 2), (7, .arraylength, 8, 0, 0), (8, .if_icmp .ge (Int.ofNat 40), 11, 48, 0), (11, .aload_n 0, 12, 0, 0), (12, .getfield 19, 15, 0, 2), (15, .iload_n 2, 16, 0, 0), (16, .iaload, 17, 0, 0), (17, .iload_n 1, 18, 0, 0), (18, .if_icmp .ne (Int.ofNat 24), 21, 42, 0), (21, .aload_n 0, 22, 0, 0), (22, .iload_n 2, 23, 0, 0), (23, .invokevirtual 64, 26, 3, 1), (26, .ifCond .ne (Int.ofNat 16), 29, 42, 0), (29, .aload_n 0, 30, 0, 0), (30, .iload_n 2, 31, 0, 0), (31, .invokevirtual 90, 34, 19, 1), (34, .istore_n 3, 35, 0, 0), (35, .iload_n 3, 36, 0, 0), (36, .iconst (Int.negSucc 0), 37, 0, 0), (37, .if_icmp .eq (Int.ofNat 5), 40, 42, 0), (40, .iload_n 3, 41, 0, 0), (41, .ireturn, 42, 0, 0), (42, .iinc 2 (Int.ofNat 1), 45, 0, 0), (45, .goto (Int.negSucc 42), 48, 2, 0), (48, .iconst (Int.negSucc 0), 49, 0, 0), (49, .ireturn, 50, 0, 0)])
def xm_19 : xM := (yX0_emptyCellOf, cX0_emptyCellOf, 5, (some .int), { frames := 2, cells := 0, slots := 0, locals := 44 }, (false, false), 0, [(0, .aload_n 0, 1, 0, 0), (1, .iload_n 1, 2, 0, 0), (2, .invokevirtual 45, 5, 5, 1), (5, .istore_n 2, 6, 0, 0), (6, .iconst (Int.ofNat 0), 7, 0, 0), (7, .istore_n 3, 8, 0, 0), (8, .iload_n 3, 9, 0, 0), (9, .iload_n 2, 10, 0, 0), (10, .if_icmp .ge (Int.ofNat 33), 13, 43, 0), (13, .aload_n 0, 14, 0, 0), (14, .iload_n 1, 15, 0, 0), (15, .iload_n 3, 16, 0, 0), (16, .invokevirtual 48, 19, 6, 2), (19, .istore 4, 21, 0, 0), (21, .aload_n 0, 22, 0, 0), (22, .getfield 9, 25, 0, 0), (25, .iload 4, 27, 0, 0), (27, .invokevirtual 52, 30, 32, 1), (30, .iconst (Int.negSucc 0), 31, 0, 0), (31, .if_icmp .ne (Int.ofNat 6), 34, 37, 0), (34, .iload 4, 36, 0, 0), (36, .ireturn, 37, 0, 0), (37, .iinc 3 (Int.ofNat 1), 40, 0, 0), (40, .goto (Int.negSucc 31), 43, 8, 0), (43, .iconst (Int.negSucc 0), 44, 0, 0), (44, .ireturn, 45, 0, 0)])
def xm_20 : xM := (yX0_cleanOwn, cX0_cleanOwn, 3, none, { frames := 3, cells := 0, slots := 0, locals := 69 }, (false, false), 0, [(0, .iconst (Int.ofNat 0), 1, 0, 0), (1, .istore_n 2, 2, 0, 0), (2, .iload_n 2, 3, 0, 0), (3, .aload_n 0, 4, 0, 0), (4, .getfield 19, 7, 0, 2), (7, .arraylength, 8, 0, 0), (8, .if_icmp .ge (Int.ofNat 52), 11, 60, 0), (11, .aload_n 0, 12, 0, 0), (12, .getfield 19, 15, 0, 2), (15, .iload_n 2, 16, 0, 0), (16, .iaload, 17, 0, 0), (17, .iload_n 1, 18, 0, 0), (18, .if_icmp .ne (Int.ofNat 36), 21, 54, 0), (21, .aload_n 0, 22, 0, 0), (22, .iload_n 2, 23, 0, 0), (23, .invokevirtual 64, 26, 3, 1), (26, .ifCond .eq (Int.ofNat 28), 29, 54, 0), (29, .aload_n 0, 30, 0, 0), (30, .iload_n 2, 31, 0, 0), (31, .invokevirtual 93, 34, 16, 1), (34, .aload_n 0, 35, 0, 0), (35, .getfield 19, 38, 0, 2), (38, .iload_n 2, 39, 0, 0), (39, .iaload, 40, 0, 0), (40, .iconst (Int.negSucc 0), 41, 0, 0), (41, .if_icmp .eq (Int.ofNat 12), 44, 53, 0), (44, .aload_n 0, 45, 0, 0), (45, .iload_n 2, 46, 0, 0), (46, .invokevirtual 90, 49, 19, 1), (49, .iconst (Int.negSucc 0), 50, 0, 0), (50, .if_icmp .eq (Int.ofNat 4), 53, 54, 0), (53, .return_, 54, 0, 0), (54, .iinc 2 (Int.ofNat 1), 57, 0, 0), (57, .goto (Int.negSucc 54), 60, 2, 0), (60, .return_, 61, 0, 0)])
def xm_21 : xM := (yX0_cleanOthers, cX0_cleanOthers, 3, (some .int), { frames := 3, cells := 0, slots := 0, locals := 69 }, (false, false), 0, [(0, .iconst (Int.ofNat 0), 1, 0, 0), (1, .istore_n 2, 2, 0, 0), (2, .iload_n 2, 3, 0, 0), (3, .aload_n 0, 4, 0, 0), (4, .getfield 19, 7, 0, 2), (7, .arraylength, 8, 0, 0), (8, .if_icmp .ge (Int.ofNat 44), 11, 52, 0), (11, .aload_n 0, 12, 0, 0), (12, .getfield 19, 15, 0, 2), (15, .iload_n 2, 16, 0, 0), (16, .iaload, 17, 0, 0), (17, .iload_n 1, 18, 0, 0), (18, .if_icmp .eq (Int.ofNat 28), 21, 46, 0), (21, .aload_n 0, 22, 0, 0), (22, .iload_n 2, 23, 0, 0), (23, .invokevirtual 64, 26, 3, 1), (26, .ifCond .eq (Int.ofNat 20), 29, 46, 0), (29, .aload_n 0, 30, 0, 0), (30, .iload_n 2, 31, 0, 0), (31, .invokevirtual 93, 34, 16, 1), (34, .aload_n 0, 35, 0, 0), (35, .getfield 19, 38, 0, 2), (38, .iload_n 2, 39, 0, 0), (39, .iaload, 40, 0, 0), (40, .iconst (Int.negSucc 0), 41, 0, 0), (41, .if_icmp .ne (Int.ofNat 5), 44, 46, 0), (44, .iload_n 2, 45, 0, 0), (45, .ireturn, 46, 0, 0), (46, .iinc 2 (Int.ofNat 1), 49, 0, 0), (49, .goto (Int.negSucc 46), 52, 2, 0), (52, .iconst (Int.negSucc 0), 53, 0, 0), (53, .ireturn, 54, 0, 0)])
def xm_22 : xM := (yX0_firstFree, cX0_firstFree, 2, (some .int), { frames := 0, cells := 0, slots := 0, locals := 0 }, (false, false), 0, [(0, .iconst (Int.ofNat 0), 1, 0, 0), (1, .istore_n 1, 2, 0, 0), (2, .iload_n 1, 3, 0, 0), (3, .aload_n 0, 4, 0, 0), (4, .getfield 19, 7, 0, 2), (7, .arraylength, 8, 0, 0), (8, .if_icmp .ge (Int.ofNat 21), 11, 29, 0), (11, .aload_n 0, 12, 0, 0), (12, .getfield 19, 15, 0, 2), (15, .iload_n 1, 16, 0, 0), (16, .iaload, 17, 0, 0), (17, .iconst (Int.negSucc 0), 18, 0, 0), (18, .if_icmp .ne (Int.ofNat 5), 21, 23, 0), (21, .iload_n 1, 22, 0, 0), (22, .ireturn, 23, 0, 0), (23, .iinc 1 (Int.ofNat 1), 26, 0, 0), (26, .goto (Int.negSucc 23), 29, 2, 0), (29, .iconst (Int.negSucc 0), 30, 0, 0), (30, .ireturn, 31, 0, 0)])
def xm_23 : xM := (yX0_open, cX0_open, 3, (some .int), { frames := 2, cells := 0, slots := 0, locals := 44 }, (false, false), 0, [(0, .aload_n 0, 1, 0, 0), (1, .iload_n 1, 2, 0, 0), (2, .invokevirtual 27, 5, 1, 1), (5, .ifCond .ne (Int.ofNat 5), 8, 10, 0), (8, .iconst (Int.negSucc 0), 9, 0, 0), (9, .ireturn, 10, 0, 0), (10, .aload_n 0, 11, 0, 0), (11, .getfield 19, 14, 0, 2), (14, .iload_n 1, 15, 0, 0), (15, .iload_n 2, 16, 0, 0), (16, .iastore, 17, 0, 0), (17, .aload_n 0, 18, 0, 0), (18, .iload_n 1, 19, 0, 0), (19, .iconst (Int.ofNat 0), 20, 0, 0), (20, .invokevirtual 48, 23, 6, 2), (23, .ireturn, 24, 0, 0)])
def xm_24 : xM := (yX1_init, cX1_init, 2, none, { frames := 1, cells := 1, slots := 256, locals := 30 }, (true, true), 1, [(0, .aload_n 0, 1, 0, 0), (1, .invokespecial 3, 4, 900, 0), (4, .aload_n 0, 5, 0, 0), (5, .iload_n 1, 6, 0, 0), (6, .newarray .int, 8, 0, 0), (8, .putfield 9, 11, 1, 0), (11, .return_, 12, 0, 0)])
def xm_25 : xM := (yX1_size, cX1_size, 1, (some .int), { frames := 0, cells := 0, slots := 0, locals := 0 }, (false, false), 1, [(0, .aload_n 0, 1, 0, 0), (1, .getfield 15, 4, 1, 1), (4, .ireturn, 5, 0, 0)])
def xm_26 : xM := (yX1_get, cX1_get, 2, (some .int), { frames := 0, cells := 0, slots := 0, locals := 0 }, (false, false), 1, [(0, .iload_n 1, 1, 0, 0), (1, .ifCond .lt (Int.ofNat 29), 4, 30, 0), (4, .iload_n 1, 5, 0, 0), (5, .aload_n 0, 6, 0, 0), (6, .getfield 15, 9, 1, 1), (9, .if_icmp .ge (Int.ofNat 21), 12, 30, 0), (12, .iload_n 1, 13, 0, 0), (13, .aload_n 0, 14, 0, 0), (14, .getfield 9, 17, 1, 0), (17, .arraylength, 18, 0, 0), (18, .if_icmp .ge (Int.ofNat 12), 21, 30, 0), (21, .aload_n 0, 22, 0, 0), (22, .getfield 9, 25, 1, 0), (25, .iload_n 1, 26, 0, 0), (26, .iaload, 27, 0, 0), (27, .goto (Int.ofNat 4), 30, 31, 0), (30, .iconst (Int.negSucc 0), 31, 0, 0), (31, .ireturn, 32, 0, 0)])
def xm_27 : xM := (yX1_addByName, cX1_addByName, 5, none, { frames := 2, cells := 0, slots := 0, locals := 42 }, (false, false), 1, [(0, .aload_n 0, 1, 0, 0), (1, .getfield 15, 4, 1, 1), (4, .aload_n 0, 5, 0, 0), (5, .getfield 9, 8, 1, 0), (8, .arraylength, 9, 0, 0), (9, .if_icmp .ge (Int.ofNat 7), 12, 16, 0), (12, .iload_n 2, 13, 0, 0), (13, .ifCond .ge (Int.ofNat 4), 16, 17, 0), (16, .return_, 17, 0, 0), (17, .aload_n 0, 18, 0, 0), (18, .getfield 15, 21, 1, 1), (21, .istore 4, 23, 0, 0), (23, .iload 4, 25, 0, 0), (25, .iload_n 2, 26, 0, 0), (26, .if_icmp .le (Int.ofNat 46), 29, 72, 0), (29, .aload_n 3, 30, 0, 0), (30, .aload_n 0, 31, 0, 0), (31, .getfield 9, 34, 1, 0), (34, .iload 4, 36, 0, 0), (36, .iconst (Int.ofNat 1), 37, 0, 0), (37, .isub, 38, 0, 0), (38, .iaload, 39, 0, 0), (39, .invokevirtual 19, 42, 32, 1), (42, .aload_n 3, 43, 0, 0), (43, .iload_n 1, 44, 0, 0), (44, .invokevirtual 19, 47, 32, 1), (47, .if_icmp .le (Int.ofNat 25), 50, 72, 0), (50, .aload_n 0, 51, 0, 0), (51, .getfield 9, 54, 1, 0), (54, .iload 4, 56, 0, 0), (56, .aload_n 0, 57, 0, 0), (57, .getfield 9, 60, 1, 0), (60, .iload 4, 62, 0, 0), (62, .iconst (Int.ofNat 1), 63, 0, 0), (63, .isub, 64, 0, 0), (64, .iaload, 65, 0, 0), (65, .iastore, 66, 0, 0), (66, .iinc 4 (Int.negSucc 0), 69, 0, 0), (69, .goto (Int.negSucc 45), 72, 23, 0), (72, .aload_n 0, 73, 0, 0), (73, .getfield 9, 76, 1, 0), (76, .iload 4, 78, 0, 0), (78, .iload_n 1, 79, 0, 0), (79, .iastore, 80, 0, 0), (80, .aload_n 0, 81, 0, 0), (81, .dup, 82, 0, 0), (82, .getfield 15, 85, 1, 1), (85, .iconst (Int.ofNat 1), 86, 0, 0), (86, .iadd, 87, 0, 0), (87, .putfield 15, 90, 1, 1), (90, .return_, 91, 0, 0)])
def xm_28 : xM := (yX1_takeFirst, cX1_takeFirst, 3, (some .int), { frames := 0, cells := 0, slots := 0, locals := 0 }, (false, false), 1, [(0, .aload_n 0, 1, 0, 0), (1, .getfield 15, 4, 1, 1), (4, .ifCond .le (Int.ofNat 11), 7, 15, 0), (7, .aload_n 0, 8, 0, 0), (8, .getfield 9, 11, 1, 0), (11, .arraylength, 12, 0, 0), (12, .ifCond .ne (Int.ofNat 5), 15, 17, 0), (15, .iconst (Int.negSucc 0), 16, 0, 0), (16, .ireturn, 17, 0, 0), (17, .aload_n 0, 18, 0, 0), (18, .getfield 9, 21, 1, 0), (21, .iconst (Int.ofNat 0), 22, 0, 0), (22, .iaload, 23, 0, 0), (23, .istore_n 1, 24, 0, 0), (24, .iconst (Int.ofNat 1), 25, 0, 0), (25, .istore_n 2, 26, 0, 0), (26, .iload_n 2, 27, 0, 0), (27, .aload_n 0, 28, 0, 0), (28, .getfield 15, 31, 1, 1), (31, .if_icmp .ge (Int.ofNat 32), 34, 63, 0), (34, .iload_n 2, 35, 0, 0), (35, .aload_n 0, 36, 0, 0), (36, .getfield 9, 39, 1, 0), (39, .arraylength, 40, 0, 0), (40, .if_icmp .ge (Int.ofNat 23), 43, 63, 0), (43, .aload_n 0, 44, 0, 0), (44, .getfield 9, 47, 1, 0), (47, .iload_n 2, 48, 0, 0), (48, .iconst (Int.ofNat 1), 49, 0, 0), (49, .isub, 50, 0, 0), (50, .aload_n 0, 51, 0, 0), (51, .getfield 9, 54, 1, 0), (54, .iload_n 2, 55, 0, 0), (55, .iaload, 56, 0, 0), (56, .iastore, 57, 0, 0), (57, .iinc 2 (Int.ofNat 1), 60, 0, 0), (60, .goto (Int.negSucc 33), 63, 26, 0), (63, .aload_n 0, 64, 0, 0), (64, .dup, 65, 0, 0), (65, .getfield 15, 68, 1, 1), (68, .iconst (Int.ofNat 1), 69, 0, 0), (69, .isub, 70, 0, 0), (70, .putfield 15, 73, 1, 1), (73, .iload_n 1, 74, 0, 0), (74, .ireturn, 75, 0, 0)])
def xm_29 : xM := (yX2_init, cX2_init, 3, none, { frames := 1, cells := 5, slots := 2560, locals := 30 }, (true, true), 2, [(0, .aload_n 0, 1, 0, 0), (1, .invokespecial 3, 4, 900, 0), (4, .aload_n 0, 5, 0, 0), (5, .iload_n 1, 6, 0, 0), (6, .newarray .int, 8, 0, 0), (8, .putfield 9, 11, 2, 0), (11, .aload_n 0, 12, 0, 0), (12, .iload_n 1, 13, 0, 0), (13, .newarray .int, 15, 0, 0), (15, .putfield 15, 18, 2, 1), (18, .aload_n 0, 19, 0, 0), (19, .iload_n 1, 20, 0, 0), (20, .newarray .boolean, 22, 0, 0), (22, .putfield 18, 25, 2, 2), (25, .aload_n 0, 26, 0, 0), (26, .iload_n 1, 27, 0, 0), (27, .newarray .int, 29, 0, 0), (29, .putfield 22, 32, 2, 3), (32, .aload_n 0, 33, 0, 0), (33, .iload_n 1, 34, 0, 0), (34, .newarray .int, 36, 0, 0), (36, .putfield 25, 39, 2, 4), (39, .iconst (Int.ofNat 0), 40, 0, 0), (40, .istore_n 2, 41, 0, 0), (41, .iload_n 2, 42, 0, 0), (42, .iload_n 1, 43, 0, 0), (43, .if_icmp .ge (Int.ofNat 16), 46, 59, 0), (46, .aload_n 0, 47, 0, 0), (47, .getfield 9, 50, 2, 0), (50, .iload_n 2, 51, 0, 0), (51, .iconst (Int.negSucc 0), 52, 0, 0), (52, .iastore, 53, 0, 0), (53, .iinc 2 (Int.ofNat 1), 56, 0, 0), (56, .goto (Int.negSucc 14), 59, 41, 0), (59, .return_, 60, 0, 0)])
def xm_30 : xM := (yX2_words, cX2_words, 1, (some .int), { frames := 0, cells := 0, slots := 0, locals := 0 }, (false, false), 2, [(0, .aload_n 0, 1, 0, 0), (1, .getfield 9, 4, 2, 0), (4, .arraylength, 5, 0, 0), (5, .ireturn, 6, 0, 0)])
def xm_31 : xM := (yX2_isWord, cX2_isWord, 2, (some .boolean), { frames := 0, cells := 0, slots := 0, locals := 0 }, (false, false), 2, [(0, .iload_n 1, 1, 0, 0), (1, .ifCond .lt (Int.ofNat 16), 4, 17, 0), (4, .iload_n 1, 5, 0, 0), (5, .aload_n 0, 6, 0, 0), (6, .getfield 9, 9, 2, 0), (9, .arraylength, 10, 0, 0), (10, .if_icmp .ge (Int.ofNat 7), 13, 17, 0), (13, .iconst (Int.ofNat 1), 14, 0, 0), (14, .goto (Int.ofNat 4), 17, 18, 0), (17, .iconst (Int.ofNat 0), 18, 0, 0), (18, .ireturn, 19, 0, 0)])
def xm_32 : xM := (yX2_nameAt, cX2_nameAt, 2, (some .int), { frames := 1, cells := 0, slots := 0, locals := 21 }, (false, false), 2, [(0, .aload_n 0, 1, 0, 0), (1, .iload_n 1, 2, 0, 0), (2, .invokevirtual 28, 5, 31, 1), (5, .ifCond .eq (Int.ofNat 12), 8, 17, 0), (8, .aload_n 0, 9, 0, 0), (9, .getfield 9, 12, 2, 0), (12, .iload_n 1, 13, 0, 0), (13, .iaload, 14, 0, 0), (14, .goto (Int.ofNat 4), 17, 18, 0), (17, .iconst (Int.negSucc 0), 18, 0, 0), (18, .ireturn, 19, 0, 0)])
def xm_33 : xM := (yX2_fieldsOf, cX2_fieldsOf, 2, (some .int), { frames := 1, cells := 0, slots := 0, locals := 21 }, (false, false), 2, [(0, .aload_n 0, 1, 0, 0), (1, .iload_n 1, 2, 0, 0), (2, .invokevirtual 28, 5, 31, 1), (5, .ifCond .eq (Int.ofNat 12), 8, 17, 0), (8, .aload_n 0, 9, 0, 0), (9, .getfield 15, 12, 2, 1), (12, .iload_n 1, 13, 0, 0), (13, .iaload, 14, 0, 0), (14, .goto (Int.ofNat 4), 17, 18, 0), (17, .iconst (Int.ofNat 0), 18, 0, 0), (18, .ireturn, 19, 0, 0)])
def xm_34 : xM := (yX2_isWatched, cX2_isWatched, 2, (some .boolean), { frames := 1, cells := 0, slots := 0, locals := 21 }, (false, false), 2, [(0, .aload_n 0, 1, 0, 0), (1, .iload_n 1, 2, 0, 0), (2, .invokevirtual 28, 5, 31, 1), (5, .ifCond .eq (Int.ofNat 16), 8, 21, 0), (8, .aload_n 0, 9, 0, 0), (9, .getfield 18, 12, 2, 2), (12, .iload_n 1, 13, 0, 0), (13, .baload, 14, 0, 0), (14, .ifCond .eq (Int.ofNat 7), 17, 21, 0), (17, .iconst (Int.ofNat 1), 18, 0, 0), (18, .goto (Int.ofNat 4), 21, 22, 0), (21, .iconst (Int.ofNat 0), 22, 0, 0), (22, .ireturn, 23, 0, 0)])
def xm_35 : xM := (yX2_setWatched, cX2_setWatched, 3, none, { frames := 1, cells := 0, slots := 0, locals := 21 }, (false, false), 2, [(0, .aload_n 0, 1, 0, 0), (1, .iload_n 1, 2, 0, 0), (2, .invokevirtual 28, 5, 31, 1), (5, .ifCond .eq (Int.ofNat 10), 8, 15, 0), (8, .aload_n 0, 9, 0, 0), (9, .getfield 18, 12, 2, 2), (12, .iload_n 1, 13, 0, 0), (13, .iload_n 2, 14, 0, 0), (14, .bastore, 15, 0, 0), (15, .return_, 16, 0, 0)])
def xm_36 : xM := (yX2_kindOf, cX2_kindOf, 4, (some .int), { frames := 1, cells := 0, slots := 0, locals := 21 }, (false, false), 2, [(0, .iload_n 1, 1, 0, 0), (1, .iconst (Int.ofNat 1), 2, 0, 0), (2, .iadd, 3, 0, 0), (3, .iload_n 2, 4, 0, 0), (4, .iadd, 5, 0, 0), (5, .istore_n 3, 6, 0, 0), (6, .aload_n 0, 7, 0, 0), (7, .iload_n 3, 8, 0, 0), (8, .invokevirtual 28, 11, 31, 1), (11, .ifCond .eq (Int.ofNat 12), 14, 23, 0), (14, .aload_n 0, 15, 0, 0), (15, .getfield 22, 18, 2, 3), (18, .iload_n 3, 19, 0, 0), (19, .iaload, 20, 0, 0), (20, .goto (Int.ofNat 4), 23, 24, 0), (23, .iconst (Int.ofNat 0), 24, 0, 0), (24, .ireturn, 25, 0, 0)])
def xm_37 : xM := (yX2_valueOf, cX2_valueOf, 4, (some .int), { frames := 1, cells := 0, slots := 0, locals := 21 }, (false, false), 2, [(0, .iload_n 1, 1, 0, 0), (1, .iconst (Int.ofNat 1), 2, 0, 0), (2, .iadd, 3, 0, 0), (3, .iload_n 2, 4, 0, 0), (4, .iadd, 5, 0, 0), (5, .istore_n 3, 6, 0, 0), (6, .aload_n 0, 7, 0, 0), (7, .iload_n 3, 8, 0, 0), (8, .invokevirtual 28, 11, 31, 1), (11, .ifCond .eq (Int.ofNat 12), 14, 23, 0), (14, .aload_n 0, 15, 0, 0), (15, .getfield 25, 18, 2, 4), (18, .iload_n 3, 19, 0, 0), (19, .iaload, 20, 0, 0), (20, .goto (Int.ofNat 4), 23, 24, 0), (23, .iconst (Int.ofNat 0), 24, 0, 0), (24, .ireturn, 25, 0, 0)])
def xm_38 : xM := (yX2_write, cX2_write, 6, none, { frames := 1, cells := 0, slots := 0, locals := 21 }, (false, false), 2, [(0, .iload_n 1, 1, 0, 0), (1, .iconst (Int.ofNat 1), 2, 0, 0), (2, .iadd, 3, 0, 0), (3, .iload_n 2, 4, 0, 0), (4, .iadd, 5, 0, 0), (5, .istore 5, 7, 0, 0), (7, .aload_n 0, 8, 0, 0), (8, .iload 5, 10, 0, 0), (10, .invokevirtual 28, 13, 31, 1), (13, .ifCond .eq (Int.ofNat 20), 16, 33, 0), (16, .aload_n 0, 17, 0, 0), (17, .getfield 22, 20, 2, 3), (20, .iload 5, 22, 0, 0), (22, .iload_n 3, 23, 0, 0), (23, .iastore, 24, 0, 0), (24, .aload_n 0, 25, 0, 0), (25, .getfield 25, 28, 2, 4), (28, .iload 5, 30, 0, 0), (30, .iload 4, 32, 0, 0), (32, .iastore, 33, 0, 0), (33, .return_, 34, 0, 0)])
def xm_39 : xM := (yX2_place, cX2_place, 5, none, { frames := 2, cells := 0, slots := 0, locals := 46 }, (false, false), 2, [(0, .aload_n 0, 1, 0, 0), (1, .iload_n 1, 2, 0, 0), (2, .invokevirtual 28, 5, 31, 1), (5, .ifCond .ne (Int.ofNat 4), 8, 9, 0), (8, .return_, 9, 0, 0), (9, .aload_n 0, 10, 0, 0), (10, .getfield 9, 13, 2, 0), (13, .iload_n 1, 14, 0, 0), (14, .iload_n 2, 15, 0, 0), (15, .iastore, 16, 0, 0), (16, .aload_n 0, 17, 0, 0), (17, .getfield 15, 20, 2, 1), (20, .iload_n 1, 21, 0, 0), (21, .iload_n 3, 22, 0, 0), (22, .iastore, 23, 0, 0), (23, .iconst (Int.ofNat 0), 24, 0, 0), (24, .istore 4, 26, 0, 0), (26, .iload 4, 28, 0, 0), (28, .iload_n 3, 29, 0, 0), (29, .if_icmp .ge (Int.ofNat 18), 32, 47, 0), (32, .aload_n 0, 33, 0, 0), (33, .iload_n 1, 34, 0, 0), (34, .iload 4, 36, 0, 0), (36, .iconst (Int.ofNat 0), 37, 0, 0), (37, .iconst (Int.ofNat 0), 38, 0, 0), (38, .invokevirtual 32, 41, 38, 4), (41, .iinc 4 (Int.ofNat 1), 44, 0, 0), (44, .goto (Int.negSucc 17), 47, 26, 0), (47, .return_, 48, 0, 0)])
def xm_40 : xM := (yX2_remove, cX2_remove, 2, none, { frames := 1, cells := 0, slots := 0, locals := 21 }, (false, false), 2, [(0, .aload_n 0, 1, 0, 0), (1, .iload_n 1, 2, 0, 0), (2, .invokevirtual 28, 5, 31, 1), (5, .ifCond .eq (Int.ofNat 24), 8, 29, 0), (8, .aload_n 0, 9, 0, 0), (9, .getfield 9, 12, 2, 0), (12, .iload_n 1, 13, 0, 0), (13, .iconst (Int.negSucc 0), 14, 0, 0), (14, .iastore, 15, 0, 0), (15, .aload_n 0, 16, 0, 0), (16, .getfield 15, 19, 2, 1), (19, .iload_n 1, 20, 0, 0), (20, .iconst (Int.ofNat 0), 21, 0, 0), (21, .iastore, 22, 0, 0), (22, .aload_n 0, 23, 0, 0), (23, .getfield 18, 26, 2, 2), (26, .iload_n 1, 27, 0, 0), (27, .iconst (Int.ofNat 0), 28, 0, 0), (28, .bastore, 29, 0, 0), (29, .return_, 30, 0, 0)])
def xm_41 : xM := (yX2_watchedObjects, cX2_watchedObjects, 3, (some .int), { frames := 1, cells := 0, slots := 0, locals := 20 }, (false, false), 2, [(0, .iconst (Int.ofNat 0), 1, 0, 0), (1, .istore_n 1, 2, 0, 0), (2, .iconst (Int.ofNat 0), 3, 0, 0), (3, .istore_n 2, 4, 0, 0), (4, .iload_n 2, 5, 0, 0), (5, .aload_n 0, 6, 0, 0), (6, .getfield 18, 9, 2, 2), (9, .arraylength, 10, 0, 0), (10, .if_icmp .ge (Int.ofNat 21), 13, 31, 0), (13, .iload_n 1, 14, 0, 0), (14, .aload_n 0, 15, 0, 0), (15, .getfield 18, 18, 2, 2), (18, .iload_n 2, 19, 0, 0), (19, .baload, 20, 0, 0), (20, .invokestatic 36, 23, 69, 1), (23, .iadd, 24, 0, 0), (24, .istore_n 1, 25, 0, 0), (25, .iinc 2 (Int.ofNat 2), 28, 0, 0), (28, .goto (Int.negSucc 23), 31, 4, 0), (31, .iload_n 1, 32, 0, 0), (32, .ireturn, 33, 0, 0)])
def xm_42 : xM := (yX3_init, cX3_init, 3, none, { frames := 1, cells := 2, slots := 768, locals := 30 }, (true, true), 3, [(0, .aload_n 0, 1, 0, 0), (1, .invokespecial 3, 4, 900, 0), (4, .aload_n 0, 5, 0, 0), (5, .iload_n 1, 6, 0, 0), (6, .iconst (Int.ofNat 2), 7, 0, 0), (7, .idiv, 8, 0, 0), (8, .newarray .int, 10, 0, 0), (10, .putfield 9, 13, 3, 0), (13, .aload_n 0, 14, 0, 0), (14, .iload_n 1, 15, 0, 0), (15, .newarray .int, 17, 0, 0), (17, .putfield 15, 20, 3, 1), (20, .iconst (Int.ofNat 0), 21, 0, 0), (21, .istore_n 2, 22, 0, 0), (22, .iload_n 2, 23, 0, 0), (23, .iload_n 1, 24, 0, 0), (24, .if_icmp .ge (Int.ofNat 16), 27, 40, 0), (27, .aload_n 0, 28, 0, 0), (28, .getfield 15, 31, 3, 1), (31, .iload_n 2, 32, 0, 0), (32, .iconst (Int.negSucc 0), 33, 0, 0), (33, .iastore, 34, 0, 0), (34, .iinc 2 (Int.ofNat 1), 37, 0, 0), (37, .goto (Int.negSucc 14), 40, 22, 0), (40, .return_, 41, 0, 0)])
def xm_43 : xM := (yX3_size, cX3_size, 1, (some .int), { frames := 0, cells := 0, slots := 0, locals := 0 }, (false, false), 3, [(0, .aload_n 0, 1, 0, 0), (1, .getfield 18, 4, 3, 2), (4, .ireturn, 5, 0, 0)])
def xm_44 : xM := (yX3_get, cX3_get, 2, (some .int), { frames := 0, cells := 0, slots := 0, locals := 0 }, (false, false), 3, [(0, .iload_n 1, 1, 0, 0), (1, .ifCond .lt (Int.ofNat 29), 4, 30, 0), (4, .iload_n 1, 5, 0, 0), (5, .aload_n 0, 6, 0, 0), (6, .getfield 18, 9, 3, 2), (9, .if_icmp .ge (Int.ofNat 21), 12, 30, 0), (12, .iload_n 1, 13, 0, 0), (13, .aload_n 0, 14, 0, 0), (14, .getfield 9, 17, 3, 0), (17, .arraylength, 18, 0, 0), (18, .if_icmp .ge (Int.ofNat 12), 21, 30, 0), (21, .aload_n 0, 22, 0, 0), (22, .getfield 9, 25, 3, 0), (25, .iload_n 1, 26, 0, 0), (26, .iaload, 27, 0, 0), (27, .goto (Int.ofNat 4), 30, 31, 0), (30, .iconst (Int.negSucc 0), 31, 0, 0), (31, .ireturn, 32, 0, 0)])
def xm_45 : xM := (yX3_rankOf, cX3_rankOf, 2, (some .int), { frames := 0, cells := 0, slots := 0, locals := 0 }, (false, false), 3, [(0, .iload_n 1, 1, 0, 0), (1, .ifCond .lt (Int.ofNat 21), 4, 22, 0), (4, .iload_n 1, 5, 0, 0), (5, .aload_n 0, 6, 0, 0), (6, .getfield 15, 9, 3, 1), (9, .arraylength, 10, 0, 0), (10, .if_icmp .ge (Int.ofNat 12), 13, 22, 0), (13, .aload_n 0, 14, 0, 0), (14, .getfield 15, 17, 3, 1), (17, .iload_n 1, 18, 0, 0), (18, .iaload, 19, 0, 0), (19, .goto (Int.ofNat 4), 22, 23, 0), (22, .iconst (Int.negSucc 0), 23, 0, 0), (23, .ireturn, 24, 0, 0)])
def xm_46 : xM := (yX3_has, cX3_has, 2, (some .boolean), { frames := 1, cells := 0, slots := 0, locals := 21 }, (false, false), 3, [(0, .aload_n 0, 1, 0, 0), (1, .iload_n 1, 2, 0, 0), (2, .invokevirtual 22, 5, 45, 1), (5, .iconst (Int.negSucc 0), 6, 0, 0), (6, .if_icmp .eq (Int.ofNat 7), 9, 13, 0), (9, .iconst (Int.ofNat 1), 10, 0, 0), (10, .goto (Int.ofNat 4), 13, 14, 0), (13, .iconst (Int.ofNat 0), 14, 0, 0), (14, .ireturn, 15, 0, 0)])
def xm_47 : xM := (yX3_clear, cX3_clear, 2, none, { frames := 0, cells := 0, slots := 0, locals := 0 }, (false, false), 3, [(0, .iconst (Int.ofNat 0), 1, 0, 0), (1, .istore_n 1, 2, 0, 0), (2, .iload_n 1, 3, 0, 0), (3, .aload_n 0, 4, 0, 0), (4, .getfield 15, 7, 3, 1), (7, .arraylength, 8, 0, 0), (8, .if_icmp .ge (Int.ofNat 16), 11, 24, 0), (11, .aload_n 0, 12, 0, 0), (12, .getfield 15, 15, 3, 1), (15, .iload_n 1, 16, 0, 0), (16, .iconst (Int.negSucc 0), 17, 0, 0), (17, .iastore, 18, 0, 0), (18, .iinc 1 (Int.ofNat 1), 21, 0, 0), (21, .goto (Int.negSucc 18), 24, 2, 0), (24, .aload_n 0, 25, 0, 0), (25, .iconst (Int.ofNat 0), 26, 0, 0), (26, .putfield 18, 29, 3, 2), (29, .aload_n 0, 30, 0, 0), (30, .iconst (Int.ofNat 0), 31, 0, 0), (31, .putfield 26, 34, 3, 3), (34, .return_, 35, 0, 0)])
def xm_48 : xM := (yX3_come, cX3_come, 2, none, { frames := 0, cells := 0, slots := 0, locals := 0 }, (false, false), 3, [(0, .iload_n 1, 1, 0, 0), (1, .ifCond .lt (Int.ofNat 24), 4, 25, 0), (4, .iload_n 1, 5, 0, 0), (5, .aload_n 0, 6, 0, 0), (6, .getfield 15, 9, 3, 1), (9, .arraylength, 10, 0, 0), (10, .if_icmp .ge (Int.ofNat 15), 13, 25, 0), (13, .aload_n 0, 14, 0, 0), (14, .getfield 18, 17, 3, 2), (17, .aload_n 0, 18, 0, 0), (18, .getfield 9, 21, 3, 0), (21, .arraylength, 22, 0, 0), (22, .if_icmp .lt (Int.ofNat 4), 25, 26, 0), (25, .return_, 26, 0, 0), (26, .aload_n 0, 27, 0, 0), (27, .getfield 15, 30, 3, 1), (30, .iload_n 1, 31, 0, 0), (31, .iaload, 32, 0, 0), (32, .iconst (Int.negSucc 0), 33, 0, 0), (33, .if_icmp .ne (Int.ofNat 33), 36, 66, 0), (36, .aload_n 0, 37, 0, 0), (37, .getfield 15, 40, 3, 1), (40, .iload_n 1, 41, 0, 0), (41, .aload_n 0, 42, 0, 0), (42, .getfield 18, 45, 3, 2), (45, .iastore, 46, 0, 0), (46, .aload_n 0, 47, 0, 0), (47, .getfield 9, 50, 3, 0), (50, .aload_n 0, 51, 0, 0), (51, .getfield 18, 54, 3, 2), (54, .iload_n 1, 55, 0, 0), (55, .iastore, 56, 0, 0), (56, .aload_n 0, 57, 0, 0), (57, .dup, 58, 0, 0), (58, .getfield 18, 61, 3, 2), (61, .iconst (Int.ofNat 1), 62, 0, 0), (62, .iadd, 63, 0, 0), (63, .putfield 18, 66, 3, 2), (66, .return_, 67, 0, 0)])
def xm_49 : xM := (yX3_spread, cX3_spread, 5, none, { frames := 2, cells := 0, slots := 0, locals := 44 }, (false, false), 3, [(0, .aload_n 0, 1, 0, 0), (1, .getfield 26, 4, 3, 3), (4, .istore_n 2, 5, 0, 0), (5, .iload_n 2, 6, 0, 0), (6, .aload_n 0, 7, 0, 0), (7, .getfield 18, 10, 3, 2), (10, .if_icmp .ge (Int.ofNat 66), 13, 76, 0), (13, .iload_n 2, 14, 0, 0), (14, .aload_n 0, 15, 0, 0), (15, .getfield 9, 18, 3, 0), (18, .arraylength, 19, 0, 0), (19, .if_icmp .ge (Int.ofNat 57), 22, 76, 0), (22, .aload_n 0, 23, 0, 0), (23, .getfield 9, 26, 3, 0), (26, .iload_n 2, 27, 0, 0), (27, .iaload, 28, 0, 0), (28, .istore_n 3, 29, 0, 0), (29, .iconst (Int.ofNat 0), 30, 0, 0), (30, .istore 4, 32, 0, 0), (32, .iload 4, 34, 0, 0), (34, .aload_n 1, 35, 0, 0), (35, .iload_n 3, 36, 0, 0), (36, .invokevirtual 29, 39, 33, 1), (39, .if_icmp .ge (Int.ofNat 31), 42, 70, 0), (42, .aload_n 1, 43, 0, 0), (43, .iload_n 3, 44, 0, 0), (44, .iload 4, 46, 0, 0), (46, .invokevirtual 34, 49, 36, 2), (49, .iconst (Int.ofNat 1), 50, 0, 0), (50, .if_icmp .ne (Int.ofNat 14), 53, 64, 0), (53, .aload_n 0, 54, 0, 0), (54, .aload_n 1, 55, 0, 0), (55, .iload_n 3, 56, 0, 0), (56, .iload 4, 58, 0, 0), (58, .invokevirtual 38, 61, 37, 2), (61, .invokevirtual 41, 64, 48, 1), (64, .iinc 4 (Int.ofNat 1), 67, 0, 0), (67, .goto (Int.negSucc 34), 70, 32, 0), (70, .iinc 2 (Int.ofNat 1), 73, 0, 0), (73, .goto (Int.negSucc 67), 76, 5, 0), (76, .aload_n 0, 77, 0, 0), (77, .aload_n 0, 78, 0, 0), (78, .getfield 18, 81, 3, 2), (81, .putfield 26, 84, 3, 3), (84, .return_, 85, 0, 0)])
def xm_50 : xM := (yX4_init, cX4_init, 5, none, { frames := 2, cells := 18, slots := 4420, locals := 54 }, (true, true), 4, [(0, .aload_n 0, 1, 0, 0), (1, .invokespecial 1, 4, 900, 0), (4, .iconst (Int.ofNat 1), 5, 0, 0), (5, .iload_n 1, 6, 0, 0), (6, .bipush (Int.ofNat 16), 8, 0, 0), (8, .invokestatic 9, 11, 901, 0), (11, .invokestatic 15, 14, 902, 0), (14, .istore_n 2, 15, 0, 0), (15, .iload_n 2, 16, 0, 0), (16, .bipush (Int.ofNat 32), 18, 0, 0), (18, .imul, 19, 0, 0), (19, .istore_n 3, 20, 0, 0), (20, .aload_n 0, 21, 0, 0), (21, .new 18, 24, 2, 0), (24, .dup, 25, 0, 0), (25, .iload_n 3, 26, 0, 0), (26, .invokespecial 20, 29, 29, 1), (29, .putfield 23, 32, 4, 0), (32, .aload_n 0, 33, 0, 0), (33, .new 27, 36, 3, 0), (36, .dup, 37, 0, 0), (37, .iload_n 3, 38, 0, 0), (38, .invokespecial 29, 41, 42, 1), (41, .putfield 30, 44, 4, 4), (44, .aload_n 0, 45, 0, 0), (45, .new 27, 48, 3, 0), (48, .dup, 49, 0, 0), (49, .iload_n 3, 50, 0, 0), (50, .invokespecial 29, 53, 42, 1), (53, .putfield 34, 56, 4, 5), (56, .aload_n 0, 57, 0, 0), (57, .new 37, 60, 1, 0), (60, .dup, 61, 0, 0), (61, .iload_n 3, 62, 0, 0), (62, .iconst (Int.ofNat 2), 63, 0, 0), (63, .idiv, 64, 0, 0), (64, .invokespecial 39, 67, 24, 1), (67, .putfield 40, 70, 4, 2), (70, .aload_n 0, 71, 0, 0), (71, .new 44, 74, 0, 0), (74, .dup, 75, 0, 0), (75, .iload_n 2, 76, 0, 0), (76, .aload_n 0, 77, 0, 0), (77, .getfield 23, 80, 4, 0), (80, .aload_n 0, 81, 0, 0), (81, .getfield 30, 84, 4, 4), (84, .invokespecial 46, 87, 0, 3), (87, .putfield 49, 90, 4, 1), (90, .aload_n 0, 91, 0, 0), (91, .bipush (Int.ofNat 16), 93, 0, 0), (93, .newarray .int, 95, 0, 0), (95, .putfield 53, 98, 4, 3), (98, .iconst (Int.ofNat 0), 99, 0, 0), (99, .istore 4, 101, 0, 0), (101, .iload 4, 103, 0, 0), (103, .bipush (Int.ofNat 16), 105, 0, 0), (105, .if_icmp .ge (Int.ofNat 17), 108, 122, 0), (108, .aload_n 0, 109, 0, 0), (109, .getfield 53, 112, 4, 3), (112, .iload 4, 114, 0, 0), (114, .iconst (Int.negSucc 0), 115, 0, 0), (115, .iastore, 116, 0, 0), (116, .iinc 4 (Int.ofNat 1), 119, 0, 0), (119, .goto (Int.negSucc 17), 122, 101, 0), (122, .return_, 123, 0, 0)])
def xm_51 : xM := (yX4_make, cX4_make, 5, (some .int), { frames := 6, cells := 0, slots := 0, locals := 136 }, (false, false), 4, [(0, .iload_n 1, 1, 0, 0), (1, .invokestatic 57, 4, 73, 1), (4, .ifCond .eq (Int.ofNat 13), 7, 17, 0), (7, .iload_n 2, 8, 0, 0), (8, .ifCond .lt (Int.ofNat 9), 11, 17, 0), (11, .iload_n 2, 12, 0, 0), (12, .bipush (Int.ofNat 15), 14, 0, 0), (14, .if_icmp .le (Int.ofNat 6), 17, 20, 0), (17, .bipush (Int.negSucc 1), 19, 0, 0), (19, .ireturn, 20, 0, 0), (20, .aload_n 0, 21, 0, 0), (21, .getfield 61, 24, 4, 6), (24, .sipush (Int.ofNat 2000), 27, 0, 0), (27, .if_icmp .lt (Int.ofNat 6), 30, 33, 0), (30, .bipush (Int.negSucc 3), 32, 0, 0), (32, .ireturn, 33, 0, 0), (33, .aload_n 0, 34, 0, 0), (34, .iload_n 2, 35, 0, 0), (35, .invokestatic 65, 38, 72, 1), (38, .invokevirtual 69, 41, 77, 1), (41, .istore_n 3, 42, 0, 0), (42, .iload_n 3, 43, 0, 0), (43, .iconst (Int.negSucc 0), 44, 0, 0), (44, .if_icmp .ne (Int.ofNat 6), 47, 50, 0), (47, .bipush (Int.negSucc 3), 49, 0, 0), (49, .ireturn, 50, 0, 0), (50, .aload_n 0, 51, 0, 0), (51, .getfield 61, 54, 4, 6), (54, .istore 4, 56, 0, 0), (56, .aload_n 0, 57, 0, 0), (57, .dup, 58, 0, 0), (58, .getfield 61, 61, 4, 6), (61, .iconst (Int.ofNat 1), 62, 0, 0), (62, .iadd, 63, 0, 0), (63, .putfield 61, 66, 4, 6), (66, .aload_n 0, 67, 0, 0), (67, .getfield 23, 70, 4, 0), (70, .iload_n 3, 71, 0, 0), (71, .iload 4, 73, 0, 0), (73, .iload_n 2, 74, 0, 0), (74, .invokevirtual 72, 77, 39, 3), (77, .aload_n 0, 78, 0, 0), (78, .getfield 53, 81, 4, 3), (81, .iload_n 1, 82, 0, 0), (82, .iload_n 3, 83, 0, 0), (83, .iastore, 84, 0, 0), (84, .iload 4, 86, 0, 0), (86, .ireturn, 87, 0, 0)])
def xm_52 : xM := (yX4_set, cX4_set, 5, (some .int), { frames := 3, cells := 0, slots := 0, locals := 65 }, (false, false), 4, [(0, .aload_n 0, 1, 0, 0), (1, .iload_n 1, 2, 0, 0), (2, .iload_n 2, 3, 0, 0), (3, .invokevirtual 76, 6, 75, 2), (6, .istore 4, 8, 0, 0), (8, .iload 4, 10, 0, 0), (10, .ifCond .ne (Int.ofNat 19), 13, 29, 0), (13, .aload_n 0, 14, 0, 0), (14, .getfield 23, 17, 4, 0), (17, .aload_n 0, 18, 0, 0), (18, .getfield 53, 21, 4, 3), (21, .iload_n 1, 22, 0, 0), (22, .iaload, 23, 0, 0), (23, .iload_n 2, 24, 0, 0), (24, .iconst (Int.ofNat 0), 25, 0, 0), (25, .iload_n 3, 26, 0, 0), (26, .invokevirtual 79, 29, 38, 4), (29, .iload 4, 31, 0, 0), (31, .ireturn, 32, 0, 0)])
def xm_53 : xM := (yX4_link, cX4_link, 6, (some .int), { frames := 3, cells := 0, slots := 0, locals := 65 }, (false, false), 4, [(0, .aload_n 0, 1, 0, 0), (1, .iload_n 1, 2, 0, 0), (2, .iload_n 2, 3, 0, 0), (3, .invokevirtual 76, 6, 75, 2), (6, .istore 5, 8, 0, 0), (8, .iload 5, 10, 0, 0), (10, .bipush (Int.negSucc 1), 12, 0, 0), (12, .if_icmp .eq (Int.ofNat 10), 15, 22, 0), (15, .iload_n 3, 16, 0, 0), (16, .invokestatic 57, 19, 73, 1), (19, .ifCond .ne (Int.ofNat 6), 22, 25, 0), (22, .bipush (Int.negSucc 1), 24, 0, 0), (24, .ireturn, 25, 0, 0), (25, .iload 5, 27, 0, 0), (27, .bipush (Int.negSucc 2), 29, 0, 0), (29, .if_icmp .eq (Int.ofNat 13), 32, 42, 0), (32, .aload_n 0, 33, 0, 0), (33, .getfield 53, 36, 4, 3), (36, .iload_n 3, 37, 0, 0), (37, .iaload, 38, 0, 0), (38, .iconst (Int.negSucc 0), 39, 0, 0), (39, .if_icmp .ne (Int.ofNat 6), 42, 45, 0), (42, .bipush (Int.negSucc 2), 44, 0, 0), (44, .ireturn, 45, 0, 0), (45, .aload_n 0, 46, 0, 0), (46, .getfield 23, 49, 4, 0), (49, .aload_n 0, 50, 0, 0), (50, .getfield 53, 53, 4, 3), (53, .iload_n 1, 54, 0, 0), (54, .iaload, 55, 0, 0), (55, .iload_n 2, 56, 0, 0), (56, .iload 4, 58, 0, 0), (58, .ifCond .eq (Int.ofNat 7), 61, 65, 0), (61, .iconst (Int.ofNat 2), 62, 0, 0), (62, .goto (Int.ofNat 4), 65, 66, 0), (65, .iconst (Int.ofNat 1), 66, 0, 0), (66, .aload_n 0, 67, 0, 0), (67, .getfield 53, 70, 4, 3), (70, .iload_n 3, 71, 0, 0), (71, .iaload, 72, 0, 0), (72, .invokevirtual 79, 75, 38, 4), (75, .iconst (Int.ofNat 0), 76, 0, 0), (76, .ireturn, 77, 0, 0)])
def xm_54 : xM := (yX4_refers, cX4_refers, 4, (some .int), { frames := 3, cells := 0, slots := 0, locals := 65 }, (false, false), 4, [(0, .aload_n 0, 1, 0, 0), (1, .iload_n 1, 2, 0, 0), (2, .iload_n 2, 3, 0, 0), (3, .invokevirtual 76, 6, 75, 2), (6, .istore_n 3, 7, 0, 0), (7, .iload_n 3, 8, 0, 0), (8, .ifCond .ne (Int.ofNat 20), 11, 28, 0), (11, .aload_n 0, 12, 0, 0), (12, .getfield 23, 15, 4, 0), (15, .aload_n 0, 16, 0, 0), (16, .getfield 53, 19, 4, 3), (19, .iload_n 1, 20, 0, 0), (20, .iaload, 21, 0, 0), (21, .iload_n 2, 22, 0, 0), (22, .invokevirtual 83, 25, 36, 2), (25, .goto (Int.ofNat 4), 28, 29, 0), (28, .iload_n 3, 29, 0, 0), (29, .ireturn, 30, 0, 0)])
def xm_55 : xM := (yX4_number, cX4_number, 3, (some .int), { frames := 3, cells := 0, slots := 0, locals := 65 }, (false, false), 4, [(0, .aload_n 0, 1, 0, 0), (1, .iload_n 1, 2, 0, 0), (2, .iload_n 2, 3, 0, 0), (3, .invokevirtual 76, 6, 75, 2), (6, .ifCond .ne (Int.ofNat 20), 9, 26, 0), (9, .aload_n 0, 10, 0, 0), (10, .getfield 23, 13, 4, 0), (13, .aload_n 0, 14, 0, 0), (14, .getfield 53, 17, 4, 3), (17, .iload_n 1, 18, 0, 0), (18, .iaload, 19, 0, 0), (19, .iload_n 2, 20, 0, 0), (20, .invokevirtual 83, 23, 36, 2), (23, .ifCond .eq (Int.ofNat 5), 26, 28, 0), (26, .iconst (Int.ofNat 0), 27, 0, 0), (27, .ireturn, 28, 0, 0), (28, .aload_n 0, 29, 0, 0), (29, .getfield 23, 32, 4, 0), (32, .aload_n 0, 33, 0, 0), (33, .getfield 53, 36, 4, 3), (36, .iload_n 1, 37, 0, 0), (37, .iaload, 38, 0, 0), (38, .iload_n 2, 39, 0, 0), (39, .invokevirtual 86, 42, 37, 2), (42, .ireturn, 43, 0, 0)])
def xm_56 : xM := (yX4_load, cX4_load, 5, (some .int), { frames := 3, cells := 0, slots := 0, locals := 65 }, (false, false), 4, [(0, .aload_n 0, 1, 0, 0), (1, .iload_n 2, 2, 0, 0), (2, .iload_n 3, 3, 0, 0), (3, .invokevirtual 76, 6, 75, 2), (6, .istore 4, 8, 0, 0), (8, .iload 4, 10, 0, 0), (10, .bipush (Int.negSucc 1), 12, 0, 0), (12, .if_icmp .eq (Int.ofNat 10), 15, 22, 0), (15, .iload_n 1, 16, 0, 0), (16, .invokestatic 57, 19, 73, 1), (19, .ifCond .ne (Int.ofNat 6), 22, 25, 0), (22, .bipush (Int.negSucc 1), 24, 0, 0), (24, .ireturn, 25, 0, 0), (25, .iload 4, 27, 0, 0), (27, .bipush (Int.negSucc 2), 29, 0, 0), (29, .if_icmp .eq (Int.ofNat 20), 32, 49, 0), (32, .aload_n 0, 33, 0, 0), (33, .getfield 23, 36, 4, 0), (36, .aload_n 0, 37, 0, 0), (37, .getfield 53, 40, 4, 3), (40, .iload_n 2, 41, 0, 0), (41, .iaload, 42, 0, 0), (42, .iload_n 3, 43, 0, 0), (43, .invokevirtual 83, 46, 36, 2), (46, .ifCond .ne (Int.ofNat 6), 49, 52, 0), (49, .bipush (Int.negSucc 2), 51, 0, 0), (51, .ireturn, 52, 0, 0), (52, .aload_n 0, 53, 0, 0), (53, .getfield 53, 56, 4, 3), (56, .iload_n 1, 57, 0, 0), (57, .aload_n 0, 58, 0, 0), (58, .getfield 23, 61, 4, 0), (61, .aload_n 0, 62, 0, 0), (62, .getfield 53, 65, 4, 3), (65, .iload_n 2, 66, 0, 0), (66, .iaload, 67, 0, 0), (67, .iload_n 3, 68, 0, 0), (68, .invokevirtual 86, 71, 37, 2), (71, .iastore, 72, 0, 0), (72, .aload_n 0, 73, 0, 0), (73, .getfield 23, 76, 4, 0), (76, .aload_n 0, 77, 0, 0), (77, .getfield 53, 80, 4, 3), (80, .iload_n 1, 81, 0, 0), (81, .iaload, 82, 0, 0), (82, .invokevirtual 89, 85, 32, 1), (85, .ireturn, 86, 0, 0)])
def xm_57 : xM := (yX4_copy, cX4_copy, 3, (some .int), { frames := 2, cells := 0, slots := 0, locals := 42 }, (false, false), 4, [(0, .iload_n 1, 1, 0, 0), (1, .invokestatic 57, 4, 73, 1), (4, .ifCond .eq (Int.ofNat 10), 7, 14, 0), (7, .iload_n 2, 8, 0, 0), (8, .invokestatic 57, 11, 73, 1), (11, .ifCond .ne (Int.ofNat 6), 14, 17, 0), (14, .bipush (Int.negSucc 1), 16, 0, 0), (16, .ireturn, 17, 0, 0), (17, .aload_n 0, 18, 0, 0), (18, .getfield 53, 21, 4, 3), (21, .iload_n 1, 22, 0, 0), (22, .aload_n 0, 23, 0, 0), (23, .getfield 53, 26, 4, 3), (26, .iload_n 2, 27, 0, 0), (27, .iaload, 28, 0, 0), (28, .iastore, 29, 0, 0), (29, .aload_n 0, 30, 0, 0), (30, .getfield 23, 33, 4, 0), (33, .aload_n 0, 34, 0, 0), (34, .getfield 53, 37, 4, 3), (37, .iload_n 1, 38, 0, 0), (38, .iaload, 39, 0, 0), (39, .invokevirtual 89, 42, 32, 1), (42, .ireturn, 43, 0, 0)])
def xm_58 : xM := (yX4_drop, cX4_drop, 3, (some .int), { frames := 1, cells := 0, slots := 0, locals := 20 }, (false, false), 4, [(0, .iload_n 1, 1, 0, 0), (1, .invokestatic 57, 4, 73, 1), (4, .ifCond .ne (Int.ofNat 6), 7, 10, 0), (7, .bipush (Int.negSucc 1), 9, 0, 0), (9, .ireturn, 10, 0, 0), (10, .aload_n 0, 11, 0, 0), (11, .getfield 53, 14, 4, 3), (14, .iload_n 1, 15, 0, 0), (15, .iaload, 16, 0, 0), (16, .iconst (Int.negSucc 0), 17, 0, 0), (17, .if_icmp .eq (Int.ofNat 7), 20, 24, 0), (20, .iconst (Int.ofNat 1), 21, 0, 0), (21, .goto (Int.ofNat 4), 24, 25, 0), (24, .iconst (Int.ofNat 0), 25, 0, 0), (25, .invokestatic 92, 28, 69, 1), (28, .istore_n 2, 29, 0, 0), (29, .aload_n 0, 30, 0, 0), (30, .getfield 53, 33, 4, 3), (33, .iload_n 1, 34, 0, 0), (34, .iconst (Int.negSucc 0), 35, 0, 0), (35, .iastore, 36, 0, 0), (36, .iload_n 2, 37, 0, 0), (37, .ireturn, 38, 0, 0)])
def xm_59 : xM := (yX4_watch, cX4_watch, 5, (some .int), { frames := 2, cells := 0, slots := 0, locals := 43 }, (false, false), 4, [(0, .aload_n 0, 1, 0, 0), (1, .iload_n 1, 2, 0, 0), (2, .invokevirtual 96, 5, 74, 1), (5, .istore_n 3, 6, 0, 0), (6, .iload_n 3, 7, 0, 0), (7, .ifCond .eq (Int.ofNat 5), 10, 12, 0), (10, .iload_n 3, 11, 0, 0), (11, .ireturn, 12, 0, 0), (12, .aload_n 0, 13, 0, 0), (13, .getfield 23, 16, 4, 0), (16, .aload_n 0, 17, 0, 0), (17, .getfield 53, 20, 4, 3), (20, .iload_n 1, 21, 0, 0), (21, .iaload, 22, 0, 0), (22, .invokevirtual 99, 25, 34, 1), (25, .invokestatic 92, 28, 69, 1), (28, .istore 4, 30, 0, 0), (30, .aload_n 0, 31, 0, 0), (31, .getfield 23, 34, 4, 0), (34, .aload_n 0, 35, 0, 0), (35, .getfield 53, 38, 4, 3), (38, .iload_n 1, 39, 0, 0), (39, .iaload, 40, 0, 0), (40, .iload_n 2, 41, 0, 0), (41, .invokevirtual 102, 44, 35, 2), (44, .iload 4, 46, 0, 0), (46, .ireturn, 47, 0, 0)])
def xm_60 : xM := (yX4_next, cX4_next, 3, (some .int), { frames := 2, cells := 0, slots := 0, locals := 42 }, (false, false), 4, [(0, .iload_n 1, 1, 0, 0), (1, .invokestatic 57, 4, 73, 1), (4, .ifCond .ne (Int.ofNat 6), 7, 10, 0), (7, .bipush (Int.negSucc 1), 9, 0, 0), (9, .ireturn, 10, 0, 0), (10, .aload_n 0, 11, 0, 0), (11, .getfield 40, 14, 4, 2), (14, .invokevirtual 106, 17, 28, 0), (17, .istore_n 2, 18, 0, 0), (18, .iload_n 2, 19, 0, 0), (19, .iconst (Int.negSucc 0), 20, 0, 0), (20, .if_icmp .ne (Int.ofNat 5), 23, 25, 0), (23, .iconst (Int.negSucc 0), 24, 0, 0), (24, .ireturn, 25, 0, 0), (25, .aload_n 0, 26, 0, 0), (26, .getfield 53, 29, 4, 3), (29, .iload_n 1, 30, 0, 0), (30, .iload_n 2, 31, 0, 0), (31, .iastore, 32, 0, 0), (32, .aload_n 0, 33, 0, 0), (33, .getfield 23, 36, 4, 0), (36, .iload_n 2, 37, 0, 0), (37, .invokevirtual 89, 40, 32, 1), (40, .ireturn, 41, 0, 0)])
def xm_61 : xM := (yX4_mark, cX4_mark, 1, (some .int), { frames := 5, cells := 0, slots := 0, locals := 108 }, (false, false), 4, [(0, .aload_n 0, 1, 0, 0), (1, .invokevirtual 110, 4, 78, 0), (4, .aload_n 0, 5, 0, 0), (5, .getfield 30, 8, 4, 4), (8, .invokevirtual 113, 11, 43, 0), (11, .ireturn, 12, 0, 0)])
def xm_62 : xM := (yX4_sweep, cX4_sweep, 2, (some .int), { frames := 3, cells := 0, slots := 0, locals := 69 }, (false, false), 4, [(0, .aload_n 0, 1, 0, 0), (1, .getfield 49, 4, 4, 1), (4, .invokevirtual 116, 7, 14, 0), (7, .istore_n 1, 8, 0, 0), (8, .aload_n 0, 9, 0, 0), (9, .getfield 49, 12, 4, 1), (12, .iload_n 1, 13, 0, 0), (13, .invokevirtual 119, 16, 16, 1), (16, .iload_n 1, 17, 0, 0), (17, .ireturn, 18, 0, 0)])
def xm_63 : xM := (yX4_object, cX4_object, 4, (some .int), { frames := 3, cells := 0, slots := 0, locals := 64 }, (false, false), 4, [(0, .iload_n 2, 1, 0, 0), (1, .ifCond .lt (Int.ofNat 8), 4, 9, 0), (4, .iload_n 2, 5, 0, 0), (5, .iconst (Int.ofNat 5), 6, 0, 0), (6, .if_icmp .le (Int.ofNat 6), 9, 12, 0), (9, .bipush (Int.negSucc 1), 11, 0, 0), (11, .ireturn, 12, 0, 0), (12, .aload_n 0, 13, 0, 0), (13, .iload_n 1, 14, 0, 0), (14, .invokevirtual 96, 17, 74, 1), (17, .istore_n 3, 18, 0, 0), (18, .iload_n 3, 19, 0, 0), (19, .ifCond .ne (Int.ofNat 17), 22, 36, 0), (22, .aload_n 0, 23, 0, 0), (23, .aload_n 0, 24, 0, 0), (24, .getfield 53, 27, 4, 3), (27, .iload_n 1, 28, 0, 0), (28, .iaload, 29, 0, 0), (29, .iload_n 2, 30, 0, 0), (30, .invokevirtual 122, 33, 76, 2), (33, .goto (Int.ofNat 4), 36, 37, 0), (36, .iload_n 3, 37, 0, 0), (37, .ireturn, 38, 0, 0)])
def xm_64 : xM := (yX4_at, cX4_at, 2, (some .int), { frames := 2, cells := 0, slots := 0, locals := 43 }, (false, false), 4, [(0, .iload_n 1, 1, 0, 0), (1, .ifCond .lt (Int.ofNat 14), 4, 15, 0), (4, .iload_n 1, 5, 0, 0), (5, .aload_n 0, 6, 0, 0), (6, .getfield 23, 9, 4, 0), (9, .invokevirtual 125, 12, 30, 0), (12, .if_icmp .lt (Int.ofNat 6), 15, 18, 0), (15, .bipush (Int.negSucc 1), 17, 0, 0), (17, .ireturn, 18, 0, 0), (18, .aload_n 0, 19, 0, 0), (19, .getfield 23, 22, 4, 0), (22, .aload_n 0, 23, 0, 0), (23, .getfield 49, 26, 4, 1), (26, .iload_n 1, 27, 0, 0), (27, .invokevirtual 128, 30, 7, 1), (30, .invokevirtual 89, 33, 32, 1), (33, .ireturn, 34, 0, 0)])
def xm_65 : xM := (yX4_block, cX4_block, 3, (some .int), { frames := 4, cells := 0, slots := 0, locals := 89 }, (false, false), 4, [(0, .aload_n 0, 1, 0, 0), (1, .getfield 49, 4, 4, 1), (4, .iload_n 1, 5, 0, 0), (5, .invokevirtual 131, 8, 1, 1), (8, .ifCond .ne (Int.ofNat 6), 11, 14, 0), (11, .bipush (Int.negSucc 1), 13, 0, 0), (13, .ireturn, 14, 0, 0), (14, .iload_n 2, 15, 0, 0), (15, .tableswitch 68 0 3 #[29, 38, 50, 59], 44, 0, 29), (44, .aload_n 0, 45, 0, 0), (45, .getfield 49, 48, 4, 1), (48, .iload_n 1, 49, 0, 0), (49, .invokevirtual 134, 52, 2, 1), (52, .ireturn, 53, 0, 0), (53, .aload_n 0, 54, 0, 0), (54, .getfield 49, 57, 4, 1), (57, .iload_n 1, 58, 0, 0), (58, .invokevirtual 137, 61, 3, 1), (61, .invokestatic 92, 64, 69, 1), (64, .ireturn, 65, 0, 0), (65, .aload_n 0, 66, 0, 0), (66, .getfield 49, 69, 4, 1), (69, .iload_n 1, 70, 0, 0), (70, .invokevirtual 140, 73, 8, 1), (73, .ireturn, 74, 0, 0), (74, .aload_n 0, 75, 0, 0), (75, .getfield 49, 78, 4, 1), (78, .iload_n 1, 79, 0, 0), (79, .invokevirtual 143, 82, 9, 1), (82, .ireturn, 83, 0, 0), (83, .bipush (Int.negSucc 1), 85, 0, 0), (85, .ireturn, 86, 0, 0)])
def xm_66 : xM := (yX4_count, cX4_count, 2, (some .int), { frames := 4, cells := 0, slots := 0, locals := 90 }, (false, false), 4, [(0, .iload_n 1, 1, 0, 0), (1, .tableswitch 126 0 9 #[55, 63, 71, 76, 81, 89, 97, 105, 113, 121], 56, 0, 55), (56, .aload_n 0, 57, 0, 0), (57, .getfield 49, 60, 4, 1), (60, .invokevirtual 146, 63, 10, 0), (63, .ireturn, 64, 0, 0), (64, .aload_n 0, 65, 0, 0), (65, .getfield 49, 68, 4, 1), (68, .invokevirtual 149, 71, 11, 0), (71, .ireturn, 72, 0, 0), (72, .aload_n 0, 73, 0, 0), (73, .getfield 61, 76, 4, 6), (76, .ireturn, 77, 0, 0), (77, .aload_n 0, 78, 0, 0), (78, .getfield 152, 81, 4, 7), (81, .ireturn, 82, 0, 0), (82, .aload_n 0, 83, 0, 0), (83, .getfield 49, 86, 4, 1), (86, .invokevirtual 155, 89, 4, 0), (89, .ireturn, 90, 0, 0), (90, .aload_n 0, 91, 0, 0), (91, .getfield 49, 94, 4, 1), (94, .invokevirtual 158, 97, 12, 0), (97, .ireturn, 98, 0, 0), (98, .aload_n 0, 99, 0, 0), (99, .getfield 49, 102, 4, 1), (102, .invokevirtual 161, 105, 13, 0), (105, .ireturn, 106, 0, 0), (106, .aload_n 0, 107, 0, 0), (107, .getfield 40, 110, 4, 2), (110, .invokevirtual 164, 113, 25, 0), (113, .ireturn, 114, 0, 0), (114, .aload_n 0, 115, 0, 0), (115, .getfield 23, 118, 4, 0), (118, .invokevirtual 165, 121, 41, 0), (121, .ireturn, 122, 0, 0), (122, .aload_n 0, 123, 0, 0), (123, .invokevirtual 168, 126, 80, 0), (126, .ireturn, 127, 0, 0), (127, .bipush (Int.negSucc 1), 129, 0, 0), (129, .ireturn, 130, 0, 0)])
def xm_67 : xM := (yX4_same, cX4_same, 3, (some .int), { frames := 1, cells := 0, slots := 0, locals := 20 }, (false, false), 4, [(0, .iload_n 1, 1, 0, 0), (1, .invokestatic 57, 4, 73, 1), (4, .ifCond .eq (Int.ofNat 10), 7, 14, 0), (7, .iload_n 2, 8, 0, 0), (8, .invokestatic 57, 11, 73, 1), (11, .ifCond .ne (Int.ofNat 6), 14, 17, 0), (14, .bipush (Int.negSucc 1), 16, 0, 0), (16, .ireturn, 17, 0, 0), (17, .aload_n 0, 18, 0, 0), (18, .getfield 53, 21, 4, 3), (21, .iload_n 1, 22, 0, 0), (22, .iaload, 23, 0, 0), (23, .aload_n 0, 24, 0, 0), (24, .getfield 53, 27, 4, 3), (27, .iload_n 2, 28, 0, 0), (28, .iaload, 29, 0, 0), (29, .if_icmp .ne (Int.ofNat 7), 32, 36, 0), (32, .iconst (Int.ofNat 1), 33, 0, 0), (33, .goto (Int.ofNat 4), 36, 37, 0), (36, .iconst (Int.ofNat 0), 37, 0, 0), (37, .invokestatic 92, 40, 69, 1), (40, .ireturn, 41, 0, 0)])
def xm_68 : xM := (yX4_sum, cX4_sum, 5, (some .long), { frames := 4, cells := 0, slots := 0, locals := 94 }, (false, false), 4, [(0, .iload_n 1, 1, 0, 0), (1, .invokestatic 57, 4, 73, 1), (4, .ifCond .ne (Int.ofNat 7), 7, 11, 0), (7, .ldc2_w 171, 10, 1000002, 0), (10, .lreturn, 11, 0, 0), (11, .aload_n 0, 12, 0, 0), (12, .getfield 53, 15, 4, 3), (15, .iload_n 1, 16, 0, 0), (16, .iaload, 17, 0, 0), (17, .iconst (Int.negSucc 0), 18, 0, 0), (18, .if_icmp .ne (Int.ofNat 5), 21, 23, 0), (21, .lconst 0, 22, 0, 0), (22, .lreturn, 23, 0, 0), (23, .aload_n 0, 24, 0, 0), (24, .getfield 34, 27, 4, 5), (27, .invokevirtual 173, 30, 47, 0), (30, .aload_n 0, 31, 0, 0), (31, .getfield 34, 34, 4, 5), (34, .aload_n 0, 35, 0, 0), (35, .getfield 53, 38, 4, 3), (38, .iload_n 1, 39, 0, 0), (39, .iaload, 40, 0, 0), (40, .invokevirtual 176, 43, 48, 1), (43, .aload_n 0, 44, 0, 0), (44, .getfield 34, 47, 4, 5), (47, .aload_n 0, 48, 0, 0), (48, .getfield 23, 51, 4, 0), (51, .invokevirtual 179, 54, 49, 1), (54, .ldc2_w 183, 57, 7, 0), (57, .lstore_n 2, 58, 0, 0), (58, .iconst (Int.ofNat 0), 59, 0, 0), (59, .istore 4, 61, 0, 0), (61, .iload 4, 63, 0, 0), (63, .aload_n 0, 64, 0, 0), (64, .getfield 34, 67, 4, 5), (67, .invokevirtual 113, 70, 43, 0), (70, .if_icmp .ge (Int.ofNat 24), 73, 94, 0), (73, .aload_n 0, 74, 0, 0), (74, .lload_n 2, 75, 0, 0), (75, .aload_n 0, 76, 0, 0), (76, .getfield 34, 79, 4, 5), (79, .iload 4, 81, 0, 0), (81, .invokevirtual 185, 84, 44, 1), (84, .invokevirtual 188, 87, 83, 2), (87, .lstore_n 2, 88, 0, 0), (88, .iinc 4 (Int.ofNat 1), 91, 0, 0), (91, .goto (Int.negSucc 29), 94, 61, 0), (94, .lload_n 2, 95, 0, 0), (95, .lreturn, 96, 0, 0)])
def xm_69 : xM := (yX4_oneIf, cX4_oneIf, 1, (some .int), { frames := 0, cells := 0, slots := 0, locals := 0 }, (false, false), 4, [(0, .iload_n 0, 1, 0, 0), (1, .ifCond .eq (Int.ofNat 7), 4, 8, 0), (4, .iconst (Int.ofNat 1), 5, 0, 0), (5, .goto (Int.ofNat 4), 8, 9, 0), (8, .iconst (Int.ofNat 0), 9, 0, 0), (9, .ireturn, 10, 0, 0)])
def xm_70 : xM := (yX4_cellWords, cX4_cellWords, 1, (some .int), { frames := 0, cells := 0, slots := 0, locals := 0 }, (false, false), 4, [(0, .iconst (Int.ofNat 2), 1, 0, 0), (1, .iload_n 0, 2, 0, 0), (2, .ishl, 3, 0, 0), (3, .ireturn, 4, 0, 0)])
def xm_71 : xM := (yX4_cellsPerBlock, cX4_cellsPerBlock, 1, (some .int), { frames := 0, cells := 0, slots := 0, locals := 0 }, (false, false), 4, [(0, .bipush (Int.ofNat 16), 2, 0, 0), (2, .iload_n 0, 3, 0, 0), (3, .ishr, 4, 0, 0), (4, .ireturn, 5, 0, 0)])
def xm_72 : xM := (yX4_classFor, cX4_classFor, 2, (some .int), { frames := 1, cells := 0, slots := 0, locals := 20 }, (false, false), 4, [(0, .iconst (Int.ofNat 0), 1, 0, 0), (1, .istore_n 1, 2, 0, 0), (2, .iload_n 1, 3, 0, 0), (3, .iconst (Int.ofNat 3), 4, 0, 0), (4, .if_icmp .ge (Int.ofNat 19), 7, 23, 0), (7, .iload_n 1, 8, 0, 0), (8, .invokestatic 192, 11, 70, 1), (11, .iload_n 0, 12, 0, 0), (12, .iconst (Int.ofNat 1), 13, 0, 0), (13, .iadd, 14, 0, 0), (14, .if_icmp .ge (Int.ofNat 9), 17, 23, 0), (17, .iinc 1 (Int.ofNat 1), 20, 0, 0), (20, .goto (Int.negSucc 17), 23, 2, 0), (23, .iload_n 1, 24, 0, 0), (24, .ireturn, 25, 0, 0)])
def xm_73 : xM := (yX4_isRoot, cX4_isRoot, 1, (some .boolean), { frames := 0, cells := 0, slots := 0, locals := 0 }, (false, false), 4, [(0, .iload_n 0, 1, 0, 0), (1, .ifCond .lt (Int.ofNat 13), 4, 14, 0), (4, .iload_n 0, 5, 0, 0), (5, .bipush (Int.ofNat 16), 7, 0, 0), (7, .if_icmp .ge (Int.ofNat 7), 10, 14, 0), (10, .iconst (Int.ofNat 1), 11, 0, 0), (11, .goto (Int.ofNat 4), 14, 15, 0), (14, .iconst (Int.ofNat 0), 15, 0, 0), (15, .ireturn, 16, 0, 0)])
def xm_74 : xM := (yX4_rootFault, cX4_rootFault, 2, (some .int), { frames := 1, cells := 0, slots := 0, locals := 20 }, (false, false), 4, [(0, .iload_n 1, 1, 0, 0), (1, .invokestatic 57, 4, 73, 1), (4, .ifCond .ne (Int.ofNat 6), 7, 10, 0), (7, .bipush (Int.negSucc 1), 9, 0, 0), (9, .ireturn, 10, 0, 0), (10, .aload_n 0, 11, 0, 0), (11, .getfield 53, 14, 4, 3), (14, .iload_n 1, 15, 0, 0), (15, .iaload, 16, 0, 0), (16, .iconst (Int.negSucc 0), 17, 0, 0), (17, .if_icmp .ne (Int.ofNat 8), 20, 25, 0), (20, .bipush (Int.negSucc 2), 22, 0, 0), (22, .goto (Int.ofNat 4), 25, 26, 0), (25, .iconst (Int.ofNat 0), 26, 0, 0), (26, .ireturn, 27, 0, 0)])
def xm_75 : xM := (yX4_fieldFault, cX4_fieldFault, 4, (some .int), { frames := 2, cells := 0, slots := 0, locals := 42 }, (false, false), 4, [(0, .iload_n 2, 1, 0, 0), (1, .ifCond .lt (Int.ofNat 9), 4, 10, 0), (4, .iload_n 2, 5, 0, 0), (5, .bipush (Int.ofNat 15), 7, 0, 0), (7, .if_icmp .lt (Int.ofNat 6), 10, 13, 0), (10, .bipush (Int.negSucc 1), 12, 0, 0), (12, .ireturn, 13, 0, 0), (13, .aload_n 0, 14, 0, 0), (14, .iload_n 1, 15, 0, 0), (15, .invokevirtual 96, 18, 74, 1), (18, .istore_n 3, 19, 0, 0), (19, .iload_n 3, 20, 0, 0), (20, .ifCond .eq (Int.ofNat 5), 23, 25, 0), (23, .iload_n 3, 24, 0, 0), (24, .ireturn, 25, 0, 0), (25, .iload_n 2, 26, 0, 0), (26, .aload_n 0, 27, 0, 0), (27, .getfield 23, 30, 4, 0), (30, .aload_n 0, 31, 0, 0), (31, .getfield 53, 34, 4, 3), (34, .iload_n 1, 35, 0, 0), (35, .iaload, 36, 0, 0), (36, .invokevirtual 195, 39, 33, 1), (39, .if_icmp .ge (Int.ofNat 7), 42, 46, 0), (42, .iconst (Int.ofNat 0), 43, 0, 0), (43, .goto (Int.ofNat 5), 46, 48, 0), (46, .bipush (Int.negSucc 1), 48, 0, 0), (48, .ireturn, 49, 0, 0)])
def xm_76 : xM := (yX4_tell, cX4_tell, 3, (some .int), { frames := 2, cells := 0, slots := 0, locals := 42 }, (false, false), 4, [(0, .iload_n 2, 1, 0, 0), (1, .tableswitch 79 0 4 #[35, 44, 46, 55, 67], 36, 0, 35), (36, .aload_n 0, 37, 0, 0), (37, .getfield 23, 40, 4, 0), (40, .iload_n 1, 41, 0, 0), (41, .invokevirtual 89, 44, 32, 1), (44, .ireturn, 45, 0, 0), (45, .iload_n 1, 46, 0, 0), (46, .ireturn, 47, 0, 0), (47, .aload_n 0, 48, 0, 0), (48, .getfield 23, 51, 4, 0), (51, .iload_n 1, 52, 0, 0), (52, .invokevirtual 195, 55, 33, 1), (55, .ireturn, 56, 0, 0), (56, .aload_n 0, 57, 0, 0), (57, .getfield 23, 60, 4, 0), (60, .iload_n 1, 61, 0, 0), (61, .invokevirtual 195, 64, 33, 1), (64, .invokestatic 65, 67, 72, 1), (67, .ireturn, 68, 0, 0), (68, .aload_n 0, 69, 0, 0), (69, .getfield 23, 72, 4, 0), (72, .iload_n 1, 73, 0, 0), (73, .invokevirtual 99, 76, 34, 1), (76, .invokestatic 92, 79, 69, 1), (79, .ireturn, 80, 0, 0), (80, .aload_n 0, 81, 0, 0), (81, .getfield 30, 84, 4, 4), (84, .iload_n 1, 85, 0, 0), (85, .invokevirtual 198, 88, 46, 1), (88, .invokestatic 92, 91, 69, 1), (91, .ireturn, 92, 0, 0)])
def xm_77 : xM := (yX4_cellFor, cX4_cellFor, 3, (some .int), { frames := 5, cells := 0, slots := 0, locals := 114 }, (false, false), 4, [(0, .aload_n 0, 1, 0, 0), (1, .getfield 49, 4, 4, 1), (4, .iload_n 1, 5, 0, 0), (5, .invokevirtual 199, 8, 17, 1), (8, .istore_n 2, 9, 0, 0), (9, .iload_n 2, 10, 0, 0), (10, .iconst (Int.negSucc 0), 11, 0, 0), (11, .if_icmp .ne (Int.ofNat 16), 14, 27, 0), (14, .aload_n 0, 15, 0, 0), (15, .invokevirtual 110, 18, 78, 0), (18, .aload_n 0, 19, 0, 0), (19, .getfield 49, 22, 4, 1), (22, .iload_n 1, 23, 0, 0), (23, .invokevirtual 199, 26, 17, 1), (26, .istore_n 2, 27, 0, 0), (27, .iload_n 2, 28, 0, 0), (28, .ireturn, 29, 0, 0)])
def xm_78 : xM := (yX4_markAll, cX4_markAll, 1, none, { frames := 4, cells := 0, slots := 0, locals := 88 }, (false, false), 4, [(0, .aload_n 0, 1, 0, 0), (1, .getfield 30, 4, 4, 4), (4, .invokevirtual 173, 7, 47, 0), (7, .aload_n 0, 8, 0, 0), (8, .aload_n 0, 9, 0, 0), (9, .getfield 30, 12, 4, 4), (12, .invokevirtual 202, 15, 79, 1), (15, .aload_n 0, 16, 0, 0), (16, .getfield 30, 19, 4, 4), (19, .aload_n 0, 20, 0, 0), (20, .getfield 23, 23, 4, 0), (23, .invokevirtual 179, 26, 49, 1), (26, .aload_n 0, 27, 0, 0), (27, .invokevirtual 206, 30, 81, 0), (30, .aload_n 0, 31, 0, 0), (31, .invokevirtual 209, 34, 82, 0), (34, .aload_n 0, 35, 0, 0), (35, .getfield 30, 38, 4, 4), (38, .aload_n 0, 39, 0, 0), (39, .getfield 23, 42, 4, 0), (42, .invokevirtual 179, 45, 49, 1), (45, .aload_n 0, 46, 0, 0), (46, .invokevirtual 206, 49, 81, 0), (49, .aload_n 0, 50, 0, 0), (50, .getfield 49, 53, 4, 1), (53, .invokevirtual 212, 56, 15, 0), (56, .aload_n 0, 57, 0, 0), (57, .dup, 58, 0, 0), (58, .getfield 152, 61, 4, 7), (61, .iconst (Int.ofNat 1), 62, 0, 0), (62, .iadd, 63, 0, 0), (63, .putfield 152, 66, 4, 7), (66, .return_, 67, 0, 0)])
def xm_79 : xM := (yX4_comeToHeld, cX4_comeToHeld, 3, none, { frames := 1, cells := 0, slots := 0, locals := 21 }, (false, false), 4, [(0, .iconst (Int.ofNat 0), 1, 0, 0), (1, .istore_n 2, 2, 0, 0), (2, .iload_n 2, 3, 0, 0), (3, .bipush (Int.ofNat 16), 5, 0, 0), (5, .if_icmp .ge (Int.ofNat 19), 8, 24, 0), (8, .aload_n 1, 9, 0, 0), (9, .aload_n 0, 10, 0, 0), (10, .getfield 53, 13, 4, 3), (13, .iload_n 2, 14, 0, 0), (14, .iaload, 15, 0, 0), (15, .invokevirtual 176, 18, 48, 1), (18, .iinc 2 (Int.ofNat 1), 21, 0, 0), (21, .goto (Int.negSucc 18), 24, 2, 0), (24, .iconst (Int.ofNat 0), 25, 0, 0), (25, .istore_n 2, 26, 0, 0), (26, .iload_n 2, 27, 0, 0), (27, .aload_n 0, 28, 0, 0), (28, .getfield 40, 31, 4, 2), (31, .invokevirtual 164, 34, 25, 0), (34, .if_icmp .ge (Int.ofNat 21), 37, 55, 0), (37, .aload_n 1, 38, 0, 0), (38, .aload_n 0, 39, 0, 0), (39, .getfield 40, 42, 4, 2), (42, .iload_n 2, 43, 0, 0), (43, .invokevirtual 215, 46, 26, 1), (46, .invokevirtual 176, 49, 48, 1), (49, .iinc 2 (Int.ofNat 1), 52, 0, 0), (52, .goto (Int.negSucc 25), 55, 26, 0), (55, .return_, 56, 0, 0)])
def xm_80 : xM := (yX4_heldObjects, cX4_heldObjects, 1, (some .int), { frames := 3, cells := 0, slots := 0, locals := 68 }, (false, false), 4, [(0, .aload_n 0, 1, 0, 0), (1, .getfield 34, 4, 4, 5), (4, .invokevirtual 173, 7, 47, 0), (7, .aload_n 0, 8, 0, 0), (8, .aload_n 0, 9, 0, 0), (9, .getfield 34, 12, 4, 5), (12, .invokevirtual 202, 15, 79, 1), (15, .aload_n 0, 16, 0, 0), (16, .getfield 34, 19, 4, 5), (19, .aload_n 0, 20, 0, 0), (20, .getfield 23, 23, 4, 0), (23, .invokevirtual 179, 26, 49, 1), (26, .aload_n 0, 27, 0, 0), (27, .getfield 34, 30, 4, 5), (30, .invokevirtual 113, 33, 43, 0), (33, .ireturn, 34, 0, 0)])
def xm_81 : xM := (yX4_cutWeakFields, cX4_cutWeakFields, 5, none, { frames := 2, cells := 0, slots := 0, locals := 46 }, (false, false), 4, [(0, .iconst (Int.ofNat 0), 1, 0, 0), (1, .istore_n 1, 2, 0, 0), (2, .iload_n 1, 3, 0, 0), (3, .aload_n 0, 4, 0, 0), (4, .getfield 30, 7, 4, 4), (7, .invokevirtual 113, 10, 43, 0), (10, .if_icmp .ge (Int.ofNat 93), 13, 103, 0), (13, .aload_n 0, 14, 0, 0), (14, .getfield 30, 17, 4, 4), (17, .iload_n 1, 18, 0, 0), (18, .invokevirtual 185, 21, 44, 1), (21, .istore_n 2, 22, 0, 0), (22, .iconst (Int.ofNat 0), 23, 0, 0), (23, .istore_n 3, 24, 0, 0), (24, .iload_n 3, 25, 0, 0), (25, .aload_n 0, 26, 0, 0), (26, .getfield 23, 29, 4, 0), (29, .iload_n 2, 30, 0, 0), (30, .invokevirtual 195, 33, 33, 1), (33, .if_icmp .ge (Int.ofNat 64), 36, 97, 0), (36, .aload_n 0, 37, 0, 0), (37, .getfield 23, 40, 4, 0), (40, .iload_n 2, 41, 0, 0), (41, .iload_n 3, 42, 0, 0), (42, .invokevirtual 83, 45, 36, 2), (45, .iconst (Int.ofNat 2), 46, 0, 0), (46, .if_icmp .ne (Int.ofNat 7), 49, 53, 0), (49, .iconst (Int.ofNat 1), 50, 0, 0), (50, .goto (Int.ofNat 4), 53, 54, 0), (53, .iconst (Int.ofNat 0), 54, 0, 0), (54, .istore 4, 56, 0, 0), (56, .iload 4, 58, 0, 0), (58, .ifCond .eq (Int.ofNat 33), 61, 91, 0), (61, .aload_n 0, 62, 0, 0), (62, .getfield 30, 65, 4, 4), (65, .aload_n 0, 66, 0, 0), (66, .getfield 23, 69, 4, 0), (69, .iload_n 2, 70, 0, 0), (70, .iload_n 3, 71, 0, 0), (71, .invokevirtual 86, 74, 37, 2), (74, .invokevirtual 198, 77, 46, 1), (77, .ifCond .ne (Int.ofNat 14), 80, 91, 0), (80, .aload_n 0, 81, 0, 0), (81, .getfield 23, 84, 4, 0), (84, .iload_n 2, 85, 0, 0), (85, .iload_n 3, 86, 0, 0), (86, .iconst (Int.ofNat 0), 87, 0, 0), (87, .iconst (Int.ofNat 0), 88, 0, 0), (88, .invokevirtual 79, 91, 38, 4), (91, .iinc 3 (Int.ofNat 1), 94, 0, 0), (94, .goto (Int.negSucc 69), 97, 24, 0), (97, .iinc 1 (Int.ofNat 1), 100, 0, 0), (100, .goto (Int.negSucc 97), 103, 2, 0), (103, .return_, 104, 0, 0)])
def xm_82 : xM := (yX4_queueWatched, cX4_queueWatched, 3, none, { frames := 3, cells := 0, slots := 0, locals := 66 }, (false, false), 4, [(0, .aload_n 0, 1, 0, 0), (1, .getfield 40, 4, 4, 2), (4, .invokevirtual 164, 7, 25, 0), (7, .istore_n 1, 8, 0, 0), (8, .iconst (Int.ofNat 0), 9, 0, 0), (9, .istore_n 2, 10, 0, 0), (10, .iload_n 2, 11, 0, 0), (11, .aload_n 0, 12, 0, 0), (12, .getfield 23, 15, 4, 0), (15, .invokevirtual 125, 18, 30, 0), (18, .if_icmp .ge (Int.ofNat 53), 21, 71, 0), (21, .aload_n 0, 22, 0, 0), (22, .getfield 23, 25, 4, 0), (25, .iload_n 2, 26, 0, 0), (26, .invokevirtual 99, 29, 34, 1), (29, .ifCond .eq (Int.ofNat 36), 32, 65, 0), (32, .aload_n 0, 33, 0, 0), (33, .getfield 30, 36, 4, 4), (36, .iload_n 2, 37, 0, 0), (37, .invokevirtual 198, 40, 46, 1), (40, .ifCond .ne (Int.ofNat 25), 43, 65, 0), (43, .aload_n 0, 44, 0, 0), (44, .getfield 23, 47, 4, 0), (47, .iload_n 2, 48, 0, 0), (48, .iconst (Int.ofNat 0), 49, 0, 0), (49, .invokevirtual 102, 52, 35, 2), (52, .aload_n 0, 53, 0, 0), (53, .getfield 40, 56, 4, 2), (56, .iload_n 2, 57, 0, 0), (57, .iload_n 1, 58, 0, 0), (58, .aload_n 0, 59, 0, 0), (59, .getfield 23, 62, 4, 0), (62, .invokevirtual 216, 65, 27, 3), (65, .iinc 2 (Int.ofNat 2), 68, 0, 0), (68, .goto (Int.negSucc 57), 71, 10, 0), (71, .iload_n 1, 72, 0, 0), (72, .istore_n 2, 73, 0, 0), (73, .iload_n 2, 74, 0, 0), (74, .aload_n 0, 75, 0, 0), (75, .getfield 40, 78, 4, 2), (78, .invokevirtual 164, 81, 25, 0), (81, .if_icmp .ge (Int.ofNat 24), 84, 105, 0), (84, .aload_n 0, 85, 0, 0), (85, .getfield 30, 88, 4, 4), (88, .aload_n 0, 89, 0, 0), (89, .getfield 40, 92, 4, 2), (92, .iload_n 2, 93, 0, 0), (93, .invokevirtual 215, 96, 26, 1), (96, .invokevirtual 176, 99, 48, 1), (99, .iinc 2 (Int.ofNat 1), 102, 0, 0), (102, .goto (Int.negSucc 28), 105, 73, 0), (105, .return_, 106, 0, 0)])
def xm_83 : xM := (yX4_addObject, cX4_addObject, 8, (some .long), { frames := 3, cells := 0, slots := 0, locals := 67 }, (false, false), 4, [(0, .aload_n 0, 1, 0, 0), (1, .getfield 23, 4, 4, 0), (4, .iload_n 3, 5, 0, 0), (5, .invokevirtual 195, 8, 33, 1), (8, .istore 4, 10, 0, 0), (10, .ldc2_w 220, 13, 31, 0), (13, .lload_n 1, 14, 0, 0), (14, .lmul, 15, 0, 0), (15, .iload 4, 17, 0, 0), (17, .i2l, 18, 0, 0), (18, .ladd, 19, 0, 0), (19, .lstore 5, 21, 0, 0), (21, .iconst (Int.ofNat 0), 22, 0, 0), (22, .istore 7, 24, 0, 0), (24, .iload 7, 26, 0, 0), (26, .iload 4, 28, 0, 0), (28, .if_icmp .ge (Int.ofNat 25), 31, 53, 0), (31, .ldc2_w 220, 34, 31, 0), (34, .lload 5, 36, 0, 0), (36, .lmul, 37, 0, 0), (37, .aload_n 0, 38, 0, 0), (38, .iload_n 3, 39, 0, 0), (39, .iload 7, 41, 0, 0), (41, .invokevirtual 222, 44, 84, 2), (44, .ladd, 45, 0, 0), (45, .lstore 5, 47, 0, 0), (47, .iinc 7 (Int.ofNat 1), 50, 0, 0), (50, .goto (Int.negSucc 25), 53, 24, 0), (53, .lload 5, 55, 0, 0), (55, .lreturn, 56, 0, 0)])
def xm_84 : xM := (yX4_fieldTerm, cX4_fieldTerm, 4, (some .long), { frames := 2, cells := 0, slots := 0, locals := 44 }, (false, false), 4, [(0, .aload_n 0, 1, 0, 0), (1, .getfield 23, 4, 4, 0), (4, .iload_n 1, 5, 0, 0), (5, .iload_n 2, 6, 0, 0), (6, .invokevirtual 86, 9, 37, 2), (9, .istore_n 3, 10, 0, 0), (10, .aload_n 0, 11, 0, 0), (11, .getfield 23, 14, 4, 0), (14, .iload_n 1, 15, 0, 0), (15, .iload_n 2, 16, 0, 0), (16, .invokevirtual 83, 19, 36, 2), (19, .lookupswitch 45 #[(1, 25), (2, 41)], 44, 0, 25), (44, .ldc2_w 226, 47, 3, 0), (47, .aload_n 0, 48, 0, 0), (48, .getfield 34, 51, 4, 5), (51, .iload_n 3, 52, 0, 0), (52, .invokevirtual 228, 55, 45, 1), (55, .i2l, 56, 0, 0), (56, .lmul, 57, 0, 0), (57, .lconst 1, 58, 0, 0), (58, .ladd, 59, 0, 0), (59, .lreturn, 60, 0, 0), (60, .ldc2_w 231, 63, 2, 0), (63, .lreturn, 64, 0, 0), (64, .ldc2_w 226, 67, 3, 0), (67, .iload_n 3, 68, 0, 0), (68, .i2l, 69, 0, 0), (69, .lmul, 70, 0, 0), (70, .lreturn, 71, 0, 0)])
def xm_85 : xM := (yX5_init, cX5_init, 3, none, { frames := 1, cells := 12, slots := 4656, locals := 30 }, (true, true), 5, [(0, .aload_n 0, 1, 0, 0), (1, .invokespecial 1, 4, 900, 0), (4, .aload_n 0, 5, 0, 0), (5, .bipush (Int.ofNat 16), 7, 0, 0), (7, .newarray .int, 9, 0, 0), (9, .putfield 7, 12, 5, 5), (12, .aload_n 0, 13, 0, 0), (13, .bipush (Int.ofNat 16), 15, 0, 0), (15, .newarray .boolean, 17, 0, 0), (17, .putfield 13, 20, 5, 6), (20, .aload_n 0, 21, 0, 0), (21, .sipush (Int.ofNat 512), 24, 0, 0), (24, .newarray .int, 26, 0, 0), (26, .putfield 17, 29, 5, 7), (29, .aload_n 0, 30, 0, 0), (30, .sipush (Int.ofNat 512), 33, 0, 0), (33, .newarray .int, 35, 0, 0), (35, .putfield 20, 38, 5, 8), (38, .aload_n 0, 39, 0, 0), (39, .sipush (Int.ofNat 512), 42, 0, 0), (42, .newarray .boolean, 44, 0, 0), (44, .putfield 23, 47, 5, 9), (47, .aload_n 0, 48, 0, 0), (48, .sipush (Int.ofNat 512), 51, 0, 0), (51, .newarray .boolean, 53, 0, 0), (53, .putfield 26, 56, 5, 10), (56, .aload_n 0, 57, 0, 0), (57, .sipush (Int.ofNat 512), 60, 0, 0), (60, .newarray .int, 62, 0, 0), (62, .putfield 29, 65, 5, 11), (65, .aload_n 0, 66, 0, 0), (66, .sipush (Int.ofNat 512), 69, 0, 0), (69, .newarray .int, 71, 0, 0), (71, .putfield 32, 74, 5, 12), (74, .aload_n 0, 75, 0, 0), (75, .bipush (Int.ofNat 16), 77, 0, 0), (77, .newarray .int, 79, 0, 0), (79, .putfield 35, 82, 5, 13), (82, .aload_n 0, 83, 0, 0), (83, .sipush (Int.ofNat 512), 86, 0, 0), (86, .newarray .int, 88, 0, 0), (88, .putfield 38, 91, 5, 15), (91, .aload_n 0, 92, 0, 0), (92, .sipush (Int.ofNat 512), 95, 0, 0), (95, .newarray .int, 97, 0, 0), (97, .putfield 41, 100, 5, 17), (100, .aload_n 0, 101, 0, 0), (101, .sipush (Int.ofNat 512), 104, 0, 0), (104, .newarray .int, 106, 0, 0), (106, .putfield 44, 109, 5, 18), (109, .aload_n 0, 110, 0, 0), (110, .iload_n 1, 111, 0, 0), (111, .iconst (Int.ofNat 1), 112, 0, 0), (112, .if_icmp .ge (Int.ofNat 7), 115, 119, 0), (115, .iconst (Int.ofNat 1), 116, 0, 0), (116, .goto (Int.ofNat 15), 119, 131, 0), (119, .iload_n 1, 120, 0, 0), (120, .bipush (Int.ofNat 16), 122, 0, 0), (122, .if_icmp .le (Int.ofNat 8), 125, 130, 0), (125, .bipush (Int.ofNat 16), 127, 0, 0), (127, .goto (Int.ofNat 4), 130, 131, 0), (130, .iload_n 1, 131, 0, 0), (131, .putfield 47, 134, 5, 1), (134, .iconst (Int.ofNat 0), 135, 0, 0), (135, .istore_n 2, 136, 0, 0), (136, .iload_n 2, 137, 0, 0), (137, .bipush (Int.ofNat 16), 139, 0, 0), (139, .if_icmp .ge (Int.ofNat 23), 142, 162, 0), (142, .aload_n 0, 143, 0, 0), (143, .getfield 7, 146, 5, 5), (146, .iload_n 2, 147, 0, 0), (147, .iconst (Int.negSucc 0), 148, 0, 0), (148, .iastore, 149, 0, 0), (149, .aload_n 0, 150, 0, 0), (150, .getfield 35, 153, 5, 13), (153, .iload_n 2, 154, 0, 0), (154, .iconst (Int.negSucc 0), 155, 0, 0), (155, .iastore, 156, 0, 0), (156, .iinc 2 (Int.ofNat 1), 159, 0, 0), (159, .goto (Int.negSucc 22), 162, 136, 0), (162, .iconst (Int.ofNat 0), 163, 0, 0), (163, .istore_n 2, 164, 0, 0), (164, .iload_n 2, 165, 0, 0), (165, .sipush (Int.ofNat 512), 168, 0, 0), (168, .if_icmp .ge (Int.ofNat 16), 171, 184, 0), (171, .aload_n 0, 172, 0, 0), (172, .getfield 17, 175, 5, 7), (175, .iload_n 2, 176, 0, 0), (176, .iconst (Int.negSucc 0), 177, 0, 0), (177, .iastore, 178, 0, 0), (178, .iinc 2 (Int.ofNat 1), 181, 0, 0), (181, .goto (Int.negSucc 16), 184, 164, 0), (184, .return_, 185, 0, 0)])
def xm_86 : xM := (yX5_in, cX5_in, 3, (some .boolean), { frames := 0, cells := 0, slots := 0, locals := 0 }, (false, false), 5, [(0, .iload_n 0, 1, 0, 0), (1, .iload_n 1, 2, 0, 0), (2, .if_icmp .lt (Int.ofNat 12), 5, 14, 0), (5, .iload_n 0, 6, 0, 0), (6, .iload_n 2, 7, 0, 0), (7, .if_icmp .gt (Int.ofNat 7), 10, 14, 0), (10, .iconst (Int.ofNat 1), 11, 0, 0), (11, .goto (Int.ofNat 4), 14, 15, 0), (14, .iconst (Int.ofNat 0), 15, 0, 0), (15, .ireturn, 16, 0, 0)])
def xm_87 : xM := (yX5_isRoot, cX5_isRoot, 1, (some .boolean), { frames := 1, cells := 0, slots := 0, locals := 22 }, (false, false), 5, [(0, .iload_n 0, 1, 0, 0), (1, .iconst (Int.ofNat 0), 2, 0, 0), (2, .bipush (Int.ofNat 15), 4, 0, 0), (4, .invokestatic 54, 7, 86, 3), (7, .ireturn, 8, 0, 0)])
def xm_88 : xM := (yX5_cellOf, cX5_cellOf, 1, (some .int), { frames := 0, cells := 0, slots := 0, locals := 0 }, (false, false), 5, [(0, .iconst (Int.ofNat 2), 1, 0, 0), (1, .iload_n 0, 2, 0, 0), (2, .ishl, 3, 0, 0), (3, .ireturn, 4, 0, 0)])
def xm_89 : xM := (yX5_begin, cX5_begin, 2, none, { frames := 0, cells := 0, slots := 0, locals := 0 }, (false, false), 5, [(0, .aload_n 0, 1, 0, 0), (1, .iconst (Int.ofNat 0), 2, 0, 0), (2, .putfield 58, 5, 5, 16), (5, .iconst (Int.ofNat 0), 6, 0, 0), (6, .istore_n 1, 7, 0, 0), (7, .iload_n 1, 8, 0, 0), (8, .sipush (Int.ofNat 512), 11, 0, 0), (11, .if_icmp .ge (Int.ofNat 16), 14, 27, 0), (14, .aload_n 0, 15, 0, 0), (15, .getfield 44, 18, 5, 18), (18, .iload_n 1, 19, 0, 0), (19, .iconst (Int.negSucc 0), 20, 0, 0), (20, .iastore, 21, 0, 0), (21, .iinc 1 (Int.ofNat 1), 24, 0, 0), (24, .goto (Int.negSucc 16), 27, 7, 0), (27, .return_, 28, 0, 0)])
def xm_90 : xM := (yX5_meet, cX5_meet, 2, none, { frames := 0, cells := 0, slots := 0, locals := 0 }, (false, false), 5, [(0, .iload_n 1, 1, 0, 0), (1, .iconst (Int.negSucc 0), 2, 0, 0), (2, .if_icmp .eq (Int.ofNat 43), 5, 45, 0), (5, .aload_n 0, 6, 0, 0), (6, .getfield 44, 9, 5, 18), (9, .iload_n 1, 10, 0, 0), (10, .iaload, 11, 0, 0), (11, .iconst (Int.negSucc 0), 12, 0, 0), (12, .if_icmp .ne (Int.ofNat 33), 15, 45, 0), (15, .aload_n 0, 16, 0, 0), (16, .getfield 44, 19, 5, 18), (19, .iload_n 1, 20, 0, 0), (20, .aload_n 0, 21, 0, 0), (21, .getfield 58, 24, 5, 16), (24, .iastore, 25, 0, 0), (25, .aload_n 0, 26, 0, 0), (26, .getfield 41, 29, 5, 17), (29, .aload_n 0, 30, 0, 0), (30, .getfield 58, 33, 5, 16), (33, .iload_n 1, 34, 0, 0), (34, .iastore, 35, 0, 0), (35, .aload_n 0, 36, 0, 0), (36, .dup, 37, 0, 0), (37, .getfield 58, 40, 5, 16), (40, .iconst (Int.ofNat 1), 41, 0, 0), (41, .iadd, 42, 0, 0), (42, .putfield 58, 45, 5, 16), (45, .return_, 46, 0, 0)])
def xm_91 : xM := (yX5_follow, cX5_follow, 3, none, { frames := 1, cells := 0, slots := 0, locals := 21 }, (false, false), 5, [(0, .iconst (Int.ofNat 0), 1, 0, 0), (1, .istore_n 1, 2, 0, 0), (2, .iload_n 1, 3, 0, 0), (3, .aload_n 0, 4, 0, 0), (4, .getfield 58, 7, 5, 16), (7, .if_icmp .ge (Int.ofNat 70), 10, 77, 0), (10, .iconst (Int.ofNat 1), 11, 0, 0), (11, .istore_n 2, 12, 0, 0), (12, .iload_n 2, 13, 0, 0), (13, .aload_n 0, 14, 0, 0), (14, .getfield 20, 17, 5, 8), (17, .aload_n 0, 18, 0, 0), (18, .getfield 41, 21, 5, 17), (21, .iload_n 1, 22, 0, 0), (22, .iaload, 23, 0, 0), (23, .iaload, 24, 0, 0), (24, .if_icmp .gt (Int.ofNat 47), 27, 71, 0), (27, .aload_n 0, 28, 0, 0), (28, .aload_n 0, 29, 0, 0), (29, .getfield 29, 32, 5, 11), (32, .aload_n 0, 33, 0, 0), (33, .getfield 41, 36, 5, 17), (36, .iload_n 1, 37, 0, 0), (37, .iaload, 38, 0, 0), (38, .iload_n 2, 39, 0, 0), (39, .iadd, 40, 0, 0), (40, .iaload, 41, 0, 0), (41, .iconst (Int.ofNat 1), 42, 0, 0), (42, .if_icmp .ne (Int.ofNat 19), 45, 61, 0), (45, .aload_n 0, 46, 0, 0), (46, .getfield 32, 49, 5, 12), (49, .aload_n 0, 50, 0, 0), (50, .getfield 41, 53, 5, 17), (53, .iload_n 1, 54, 0, 0), (54, .iaload, 55, 0, 0), (55, .iload_n 2, 56, 0, 0), (56, .iadd, 57, 0, 0), (57, .iaload, 58, 0, 0), (58, .goto (Int.ofNat 4), 61, 62, 0), (61, .iconst (Int.negSucc 0), 62, 0, 0), (62, .invokevirtual 61, 65, 90, 1), (65, .iinc 2 (Int.ofNat 1), 68, 0, 0), (68, .goto (Int.negSucc 55), 71, 12, 0), (71, .iinc 1 (Int.ofNat 1), 74, 0, 0), (74, .goto (Int.negSucc 71), 77, 2, 0), (77, .return_, 78, 0, 0)])
def xm_92 : xM := (yX5_reach, cX5_reach, 2, none, { frames := 2, cells := 0, slots := 0, locals := 43 }, (false, false), 5, [(0, .aload_n 0, 1, 0, 0), (1, .invokevirtual 65, 4, 89, 0), (4, .iconst (Int.ofNat 0), 5, 0, 0), (5, .istore_n 1, 6, 0, 0), (6, .iload_n 1, 7, 0, 0), (7, .bipush (Int.ofNat 16), 9, 0, 0), (9, .if_icmp .ge (Int.ofNat 19), 12, 28, 0), (12, .aload_n 0, 13, 0, 0), (13, .aload_n 0, 14, 0, 0), (14, .getfield 35, 17, 5, 13), (17, .iload_n 1, 18, 0, 0), (18, .iaload, 19, 0, 0), (19, .invokevirtual 61, 22, 90, 1), (22, .iinc 1 (Int.ofNat 1), 25, 0, 0), (25, .goto (Int.negSucc 18), 28, 6, 0), (28, .iconst (Int.ofNat 0), 29, 0, 0), (29, .istore_n 1, 30, 0, 0), (30, .iload_n 1, 31, 0, 0), (31, .aload_n 0, 32, 0, 0), (32, .getfield 68, 35, 5, 14), (35, .if_icmp .ge (Int.ofNat 19), 38, 54, 0), (38, .aload_n 0, 39, 0, 0), (39, .aload_n 0, 40, 0, 0), (40, .getfield 38, 43, 5, 15), (43, .iload_n 1, 44, 0, 0), (44, .iaload, 45, 0, 0), (45, .invokevirtual 61, 48, 90, 1), (48, .iinc 1 (Int.ofNat 1), 51, 0, 0), (51, .goto (Int.negSucc 20), 54, 30, 0), (54, .aload_n 0, 55, 0, 0), (55, .invokevirtual 71, 58, 91, 0), (58, .return_, 59, 0, 0)])
def xm_93 : xM := (yX5_loosen, cX5_loosen, 3, none, { frames := 0, cells := 0, slots := 0, locals := 0 }, (false, false), 5, [(0, .iconst (Int.ofNat 0), 1, 0, 0), (1, .istore_n 1, 2, 0, 0), (2, .iload_n 1, 3, 0, 0), (3, .aload_n 0, 4, 0, 0), (4, .getfield 58, 7, 5, 16), (7, .if_icmp .ge (Int.ofNat 85), 10, 92, 0), (10, .aload_n 0, 11, 0, 0), (11, .getfield 41, 14, 5, 17), (14, .iload_n 1, 15, 0, 0), (15, .iaload, 16, 0, 0), (16, .iconst (Int.ofNat 1), 17, 0, 0), (17, .iadd, 18, 0, 0), (18, .istore_n 2, 19, 0, 0), (19, .iload_n 2, 20, 0, 0), (20, .aload_n 0, 21, 0, 0), (21, .getfield 41, 24, 5, 17), (24, .iload_n 1, 25, 0, 0), (25, .iaload, 26, 0, 0), (26, .aload_n 0, 27, 0, 0), (27, .getfield 20, 30, 5, 8), (30, .aload_n 0, 31, 0, 0), (31, .getfield 41, 34, 5, 17), (34, .iload_n 1, 35, 0, 0), (35, .iaload, 36, 0, 0), (36, .iaload, 37, 0, 0), (37, .iadd, 38, 0, 0), (38, .if_icmp .gt (Int.ofNat 48), 41, 86, 0), (41, .aload_n 0, 42, 0, 0), (42, .getfield 29, 45, 5, 11), (45, .iload_n 2, 46, 0, 0), (46, .iaload, 47, 0, 0), (47, .iconst (Int.ofNat 2), 48, 0, 0), (48, .if_icmp .ne (Int.ofNat 32), 51, 80, 0), (51, .aload_n 0, 52, 0, 0), (52, .getfield 44, 55, 5, 18), (55, .aload_n 0, 56, 0, 0), (56, .getfield 32, 59, 5, 12), (59, .iload_n 2, 60, 0, 0), (60, .iaload, 61, 0, 0), (61, .iaload, 62, 0, 0), (62, .iconst (Int.negSucc 0), 63, 0, 0), (63, .if_icmp .ne (Int.ofNat 17), 66, 80, 0), (66, .aload_n 0, 67, 0, 0), (67, .getfield 29, 70, 5, 11), (70, .iload_n 2, 71, 0, 0), (71, .iconst (Int.ofNat 0), 72, 0, 0), (72, .iastore, 73, 0, 0), (73, .aload_n 0, 74, 0, 0), (74, .getfield 32, 77, 5, 12), (77, .iload_n 2, 78, 0, 0), (78, .iconst (Int.ofNat 0), 79, 0, 0), (79, .iastore, 80, 0, 0), (80, .iinc 2 (Int.ofNat 1), 83, 0, 0), (83, .goto (Int.negSucc 63), 86, 19, 0), (86, .iinc 1 (Int.ofNat 1), 89, 0, 0), (89, .goto (Int.negSucc 86), 92, 2, 0), (92, .return_, 93, 0, 0)])
def xm_94 : xM := (yX5_markNow, cX5_markNow, 7, none, { frames := 3, cells := 0, slots := 0, locals := 64 }, (false, false), 5, [(0, .aload_n 0, 1, 0, 0), (1, .dup, 2, 0, 0), (2, .getfield 74, 5, 5, 3), (5, .iconst (Int.ofNat 1), 6, 0, 0), (6, .iadd, 7, 0, 0), (7, .putfield 74, 10, 5, 3), (10, .aload_n 0, 11, 0, 0), (11, .invokevirtual 77, 14, 92, 0), (14, .aload_n 0, 15, 0, 0), (15, .invokevirtual 80, 18, 93, 0), (18, .iconst (Int.negSucc 0), 19, 0, 0), (19, .istore_n 1, 20, 0, 0), (20, .aload_n 0, 21, 0, 0), (21, .getfield 68, 24, 5, 14), (24, .istore_n 2, 25, 0, 0), (25, .iconst (Int.ofNat 1), 26, 0, 0), (26, .istore_n 3, 27, 0, 0), (27, .iload_n 3, 28, 0, 0), (28, .ifCond .eq (Int.ofNat 151), 31, 179, 0), (31, .iconst (Int.negSucc 0), 32, 0, 0), (32, .istore 4, 34, 0, 0), (34, .iconst (Int.ofNat 0), 35, 0, 0), (35, .istore 5, 37, 0, 0), (37, .iload 5, 39, 0, 0), (39, .bipush (Int.ofNat 32), 41, 0, 0), (41, .aload_n 0, 42, 0, 0), (42, .getfield 47, 45, 5, 1), (45, .imul, 46, 0, 0), (46, .if_icmp .ge (Int.ofNat 85), 49, 131, 0), (49, .aload_n 0, 50, 0, 0), (50, .getfield 17, 53, 5, 7), (53, .iload 5, 55, 0, 0), (55, .iaload, 56, 0, 0), (56, .iload_n 1, 57, 0, 0), (57, .if_icmp .le (Int.ofNat 28), 60, 85, 0), (60, .aload_n 0, 61, 0, 0), (61, .getfield 26, 64, 5, 10), (64, .iload 5, 66, 0, 0), (66, .baload, 67, 0, 0), (67, .ifCond .eq (Int.ofNat 18), 70, 85, 0), (70, .aload_n 0, 71, 0, 0), (71, .getfield 44, 74, 5, 18), (74, .iload 5, 76, 0, 0), (76, .iaload, 77, 0, 0), (77, .iconst (Int.negSucc 0), 78, 0, 0), (78, .if_icmp .ne (Int.ofNat 7), 81, 85, 0), (81, .iconst (Int.ofNat 1), 82, 0, 0), (82, .goto (Int.ofNat 4), 85, 86, 0), (85, .iconst (Int.ofNat 0), 86, 0, 0), (86, .istore 6, 88, 0, 0), (88, .iload 6, 90, 0, 0), (90, .ifCond .eq (Int.ofNat 31), 93, 121, 0), (93, .iload 4, 95, 0, 0), (95, .iconst (Int.negSucc 0), 96, 0, 0), (96, .if_icmp .eq (Int.ofNat 20), 99, 116, 0), (99, .aload_n 0, 100, 0, 0), (100, .getfield 17, 103, 5, 7), (103, .iload 5, 105, 0, 0), (105, .iaload, 106, 0, 0), (106, .aload_n 0, 107, 0, 0), (107, .getfield 17, 110, 5, 7), (110, .iload 4, 112, 0, 0), (112, .iaload, 113, 0, 0), (113, .if_icmp .ge (Int.ofNat 8), 116, 121, 0), (116, .iload 5, 118, 0, 0), (118, .goto (Int.ofNat 5), 121, 123, 0), (121, .iload 4, 123, 0, 0), (123, .istore 4, 125, 0, 0), (125, .iinc 5 (Int.ofNat 1), 128, 0, 0), (128, .goto (Int.negSucc 90), 131, 37, 0), (131, .iload 4, 133, 0, 0), (133, .iconst (Int.negSucc 0), 134, 0, 0), (134, .if_icmp .eq (Int.ofNat 7), 137, 141, 0), (137, .iconst (Int.ofNat 1), 138, 0, 0), (138, .goto (Int.ofNat 4), 141, 142, 0), (141, .iconst (Int.ofNat 0), 142, 0, 0), (142, .istore_n 3, 143, 0, 0), (143, .iload_n 3, 144, 0, 0), (144, .ifCond .eq (Int.ofNat 32), 147, 176, 0), (147, .aload_n 0, 148, 0, 0), (148, .getfield 17, 151, 5, 7), (151, .iload 4, 153, 0, 0), (153, .iaload, 154, 0, 0), (154, .istore_n 1, 155, 0, 0), (155, .aload_n 0, 156, 0, 0), (156, .getfield 38, 159, 5, 15), (159, .aload_n 0, 160, 0, 0), (160, .getfield 68, 163, 5, 14), (163, .iload 4, 165, 0, 0), (165, .iastore, 166, 0, 0), (166, .aload_n 0, 167, 0, 0), (167, .dup, 168, 0, 0), (168, .getfield 68, 171, 5, 14), (171, .iconst (Int.ofNat 1), 172, 0, 0), (172, .iadd, 173, 0, 0), (173, .putfield 68, 176, 5, 14), (176, .goto (Int.negSucc 148), 179, 27, 0), (179, .iload_n 2, 180, 0, 0), (180, .istore 4, 182, 0, 0), (182, .iload 4, 184, 0, 0), (184, .aload_n 0, 185, 0, 0), (185, .getfield 68, 188, 5, 14), (188, .if_icmp .ge (Int.ofNat 33), 191, 221, 0), (191, .aload_n 0, 192, 0, 0), (192, .getfield 26, 195, 5, 10), (195, .aload_n 0, 196, 0, 0), (196, .getfield 38, 199, 5, 15), (199, .iload 4, 201, 0, 0), (201, .iaload, 202, 0, 0), (202, .iconst (Int.ofNat 0), 203, 0, 0), (203, .bastore, 204, 0, 0), (204, .aload_n 0, 205, 0, 0), (205, .aload_n 0, 206, 0, 0), (206, .getfield 38, 209, 5, 15), (209, .iload 4, 211, 0, 0), (211, .iaload, 212, 0, 0), (212, .invokevirtual 61, 215, 90, 1), (215, .iinc 4 (Int.ofNat 1), 218, 0, 0), (218, .goto (Int.negSucc 35), 221, 182, 0), (221, .aload_n 0, 222, 0, 0), (222, .invokevirtual 71, 225, 91, 0), (225, .aload_n 0, 226, 0, 0), (226, .invokevirtual 80, 229, 93, 0), (229, .iconst (Int.ofNat 0), 230, 0, 0), (230, .istore 4, 232, 0, 0), (232, .iload 4, 234, 0, 0), (234, .sipush (Int.ofNat 512), 237, 0, 0), (237, .if_icmp .ge (Int.ofNat 32), 240, 269, 0), (240, .aload_n 0, 241, 0, 0), (241, .getfield 23, 244, 5, 9), (244, .iload 4, 246, 0, 0), (246, .aload_n 0, 247, 0, 0), (247, .getfield 44, 250, 5, 18), (250, .iload 4, 252, 0, 0), (252, .iaload, 253, 0, 0), (253, .iconst (Int.negSucc 0), 254, 0, 0), (254, .if_icmp .eq (Int.ofNat 7), 257, 261, 0), (257, .iconst (Int.ofNat 1), 258, 0, 0), (258, .goto (Int.ofNat 4), 261, 262, 0), (261, .iconst (Int.ofNat 0), 262, 0, 0), (262, .bastore, 263, 0, 0), (263, .iinc 4 (Int.ofNat 1), 266, 0, 0), (266, .goto (Int.negSucc 33), 269, 232, 0), (269, .iconst (Int.ofNat 0), 270, 0, 0), (270, .istore 4, 272, 0, 0), (272, .iload 4, 274, 0, 0), (274, .aload_n 0, 275, 0, 0), (275, .getfield 47, 278, 5, 1), (278, .if_icmp .ge (Int.ofNat 32), 281, 310, 0), (281, .aload_n 0, 282, 0, 0), (282, .getfield 13, 285, 5, 6), (285, .iload 4, 287, 0, 0), (287, .aload_n 0, 288, 0, 0), (288, .getfield 7, 291, 5, 5), (291, .iload 4, 293, 0, 0), (293, .iaload, 294, 0, 0), (294, .iconst (Int.negSucc 0), 295, 0, 0), (295, .if_icmp .eq (Int.ofNat 7), 298, 302, 0), (298, .iconst (Int.ofNat 1), 299, 0, 0), (299, .goto (Int.ofNat 4), 302, 303, 0), (302, .iconst (Int.ofNat 0), 303, 0, 0), (303, .bastore, 304, 0, 0), (304, .iinc 4 (Int.ofNat 1), 307, 0, 0), (307, .goto (Int.negSucc 34), 310, 272, 0), (310, .return_, 311, 0, 0)])
def xm_95 : xM := (yX5_objectsIn, cX5_objectsIn, 4, (some .int), { frames := 0, cells := 0, slots := 0, locals := 0 }, (false, false), 5, [(0, .iconst (Int.ofNat 0), 1, 0, 0), (1, .istore_n 2, 2, 0, 0), (2, .bipush (Int.ofNat 32), 4, 0, 0), (4, .iload_n 1, 5, 0, 0), (5, .imul, 6, 0, 0), (6, .istore_n 3, 7, 0, 0), (7, .iload_n 3, 8, 0, 0), (8, .bipush (Int.ofNat 32), 10, 0, 0), (10, .iload_n 1, 11, 0, 0), (11, .imul, 12, 0, 0), (12, .bipush (Int.ofNat 32), 14, 0, 0), (14, .iadd, 15, 0, 0), (15, .if_icmp .ge (Int.ofNat 27), 18, 42, 0), (18, .iload_n 2, 19, 0, 0), (19, .aload_n 0, 20, 0, 0), (20, .getfield 17, 23, 5, 7), (23, .iload_n 3, 24, 0, 0), (24, .iaload, 25, 0, 0), (25, .iconst (Int.negSucc 0), 26, 0, 0), (26, .if_icmp .ne (Int.ofNat 7), 29, 33, 0), (29, .iconst (Int.ofNat 0), 30, 0, 0), (30, .goto (Int.ofNat 4), 33, 34, 0), (33, .iconst (Int.ofNat 1), 34, 0, 0), (34, .iadd, 35, 0, 0), (35, .istore_n 2, 36, 0, 0), (36, .iinc 3 (Int.ofNat 1), 39, 0, 0), (39, .goto (Int.negSucc 31), 42, 7, 0), (42, .iload_n 2, 43, 0, 0), (43, .ireturn, 44, 0, 0)])
def xm_96 : xM := (yX5_emptyIn, cX5_emptyIn, 2, (some .int), { frames := 1, cells := 0, slots := 0, locals := 23 }, (false, false), 5, [(0, .aload_n 0, 1, 0, 0), (1, .getfield 7, 4, 5, 5), (4, .iload_n 1, 5, 0, 0), (5, .iaload, 6, 0, 0), (6, .iconst (Int.negSucc 0), 7, 0, 0), (7, .if_icmp .ne (Int.ofNat 7), 10, 14, 0), (10, .iconst (Int.ofNat 0), 11, 0, 0), (11, .goto (Int.ofNat 21), 14, 32, 0), (14, .bipush (Int.ofNat 32), 16, 0, 0), (16, .aload_n 0, 17, 0, 0), (17, .getfield 7, 20, 5, 5), (20, .iload_n 1, 21, 0, 0), (21, .iaload, 22, 0, 0), (22, .invokestatic 83, 25, 88, 1), (25, .idiv, 26, 0, 0), (26, .aload_n 0, 27, 0, 0), (27, .iload_n 1, 28, 0, 0), (28, .invokevirtual 87, 31, 95, 1), (31, .isub, 32, 0, 0), (32, .ireturn, 33, 0, 0)])
def xm_97 : xM := (yX5_sweepBlock, cX5_sweepBlock, 3, none, { frames := 1, cells := 0, slots := 0, locals := 23 }, (false, false), 5, [(0, .aload_n 0, 1, 0, 0), (1, .dup, 2, 0, 0), (2, .getfield 90, 5, 5, 4), (5, .iconst (Int.ofNat 1), 6, 0, 0), (6, .iadd, 7, 0, 0), (7, .putfield 90, 10, 5, 4), (10, .aload_n 0, 11, 0, 0), (11, .getfield 13, 14, 5, 6), (14, .iload_n 1, 15, 0, 0), (15, .iconst (Int.ofNat 0), 16, 0, 0), (16, .bastore, 17, 0, 0), (17, .bipush (Int.ofNat 32), 19, 0, 0), (19, .iload_n 1, 20, 0, 0), (20, .imul, 21, 0, 0), (21, .istore_n 2, 22, 0, 0), (22, .iload_n 2, 23, 0, 0), (23, .bipush (Int.ofNat 32), 25, 0, 0), (25, .iload_n 1, 26, 0, 0), (26, .imul, 27, 0, 0), (27, .bipush (Int.ofNat 32), 29, 0, 0), (29, .iadd, 30, 0, 0), (30, .if_icmp .ge (Int.ofNat 42), 33, 72, 0), (33, .aload_n 0, 34, 0, 0), (34, .getfield 17, 37, 5, 7), (37, .iload_n 2, 38, 0, 0), (38, .iaload, 39, 0, 0), (39, .iconst (Int.negSucc 0), 40, 0, 0), (40, .if_icmp .eq (Int.ofNat 26), 43, 66, 0), (43, .aload_n 0, 44, 0, 0), (44, .getfield 23, 47, 5, 9), (47, .iload_n 2, 48, 0, 0), (48, .baload, 49, 0, 0), (49, .ifCond .ne (Int.ofNat 17), 52, 66, 0), (52, .aload_n 0, 53, 0, 0), (53, .getfield 17, 56, 5, 7), (56, .iload_n 2, 57, 0, 0), (57, .iconst (Int.negSucc 0), 58, 0, 0), (58, .iastore, 59, 0, 0), (59, .aload_n 0, 60, 0, 0), (60, .getfield 26, 63, 5, 10), (63, .iload_n 2, 64, 0, 0), (64, .iconst (Int.ofNat 0), 65, 0, 0), (65, .bastore, 66, 0, 0), (66, .iinc 2 (Int.ofNat 1), 69, 0, 0), (69, .goto (Int.negSucc 46), 72, 22, 0), (72, .aload_n 0, 73, 0, 0), (73, .getfield 7, 76, 5, 5), (76, .iload_n 1, 77, 0, 0), (77, .aload_n 0, 78, 0, 0), (78, .iload_n 1, 79, 0, 0), (79, .invokevirtual 87, 82, 95, 1), (82, .ifCond .ne (Int.ofNat 7), 85, 89, 0), (85, .iconst (Int.negSucc 0), 86, 0, 0), (86, .goto (Int.ofNat 9), 89, 95, 0), (89, .aload_n 0, 90, 0, 0), (90, .getfield 7, 93, 5, 5), (93, .iload_n 1, 94, 0, 0), (94, .iaload, 95, 0, 0), (95, .iastore, 96, 0, 0), (96, .return_, 97, 0, 0)])
def xm_98 : xM := (yX5_emptyCell, cX5_emptyCell, 4, (some .int), { frames := 1, cells := 0, slots := 0, locals := 20 }, (false, false), 5, [(0, .iconst (Int.ofNat 0), 1, 0, 0), (1, .istore_n 2, 2, 0, 0), (2, .iload_n 2, 3, 0, 0), (3, .aload_n 0, 4, 0, 0), (4, .getfield 47, 7, 5, 1), (7, .if_icmp .ge (Int.ofNat 66), 10, 73, 0), (10, .aload_n 0, 11, 0, 0), (11, .getfield 7, 14, 5, 5), (14, .iload_n 2, 15, 0, 0), (15, .iaload, 16, 0, 0), (16, .iload_n 1, 17, 0, 0), (17, .if_icmp .ne (Int.ofNat 50), 20, 67, 0), (20, .aload_n 0, 21, 0, 0), (21, .getfield 13, 24, 5, 6), (24, .iload_n 2, 25, 0, 0), (25, .baload, 26, 0, 0), (26, .ifCond .ne (Int.ofNat 41), 29, 67, 0), (29, .bipush (Int.ofNat 32), 31, 0, 0), (31, .iload_n 2, 32, 0, 0), (32, .imul, 33, 0, 0), (33, .istore_n 3, 34, 0, 0), (34, .iload_n 3, 35, 0, 0), (35, .bipush (Int.ofNat 32), 37, 0, 0), (37, .iload_n 2, 38, 0, 0), (38, .imul, 39, 0, 0), (39, .bipush (Int.ofNat 32), 41, 0, 0), (41, .iadd, 42, 0, 0), (42, .if_icmp .ge (Int.ofNat 25), 45, 67, 0), (45, .aload_n 0, 46, 0, 0), (46, .getfield 17, 49, 5, 7), (49, .iload_n 3, 50, 0, 0), (50, .iaload, 51, 0, 0), (51, .iconst (Int.negSucc 0), 52, 0, 0), (52, .if_icmp .ne (Int.ofNat 5), 55, 57, 0), (55, .iload_n 3, 56, 0, 0), (56, .ireturn, 57, 0, 0), (57, .iload_n 3, 58, 0, 0), (58, .iload_n 1, 59, 0, 0), (59, .invokestatic 83, 62, 88, 1), (62, .iadd, 63, 0, 0), (63, .istore_n 3, 64, 0, 0), (64, .goto (Int.negSucc 29), 67, 34, 0), (67, .iinc 2 (Int.ofNat 1), 70, 0, 0), (70, .goto (Int.negSucc 67), 73, 2, 0), (73, .iconst (Int.negSucc 0), 74, 0, 0), (74, .ireturn, 75, 0, 0)])
def xm_99 : xM := (yX5_takeFree, cX5_takeFree, 3, (some .int), { frames := 0, cells := 0, slots := 0, locals := 0 }, (false, false), 5, [(0, .iconst (Int.ofNat 0), 1, 0, 0), (1, .istore_n 2, 2, 0, 0), (2, .iload_n 2, 3, 0, 0), (3, .aload_n 0, 4, 0, 0), (4, .getfield 47, 7, 5, 1), (7, .if_icmp .ge (Int.ofNat 31), 10, 38, 0), (10, .aload_n 0, 11, 0, 0), (11, .getfield 7, 14, 5, 5), (14, .iload_n 2, 15, 0, 0), (15, .iaload, 16, 0, 0), (16, .iconst (Int.negSucc 0), 17, 0, 0), (17, .if_icmp .ne (Int.ofNat 15), 20, 32, 0), (20, .aload_n 0, 21, 0, 0), (21, .getfield 7, 24, 5, 5), (24, .iload_n 2, 25, 0, 0), (25, .iload_n 1, 26, 0, 0), (26, .iastore, 27, 0, 0), (27, .bipush (Int.ofNat 32), 29, 0, 0), (29, .iload_n 2, 30, 0, 0), (30, .imul, 31, 0, 0), (31, .ireturn, 32, 0, 0), (32, .iinc 2 (Int.ofNat 1), 35, 0, 0), (35, .goto (Int.negSucc 32), 38, 2, 0), (38, .iconst (Int.negSucc 0), 39, 0, 0), (39, .ireturn, 40, 0, 0)])
def xm_100 : xM := (yX5_room, cX5_room, 5, (some .int), { frames := 2, cells := 0, slots := 0, locals := 45 }, (false, false), 5, [(0, .aload_n 0, 1, 0, 0), (1, .iload_n 1, 2, 0, 0), (2, .invokevirtual 93, 5, 98, 1), (5, .istore_n 2, 6, 0, 0), (6, .iload_n 2, 7, 0, 0), (7, .iconst (Int.negSucc 0), 8, 0, 0), (8, .if_icmp .eq (Int.ofNat 5), 11, 13, 0), (11, .iload_n 2, 12, 0, 0), (12, .ireturn, 13, 0, 0), (13, .iconst (Int.ofNat 0), 14, 0, 0), (14, .istore_n 3, 15, 0, 0), (15, .iconst (Int.ofNat 0), 16, 0, 0), (16, .istore 4, 18, 0, 0), (18, .iload 4, 20, 0, 0), (20, .aload_n 0, 21, 0, 0), (21, .getfield 47, 24, 5, 1), (24, .if_icmp .ge (Int.ofNat 66), 27, 90, 0), (27, .iload_n 3, 28, 0, 0), (28, .ifCond .ne (Int.ofNat 62), 31, 90, 0), (31, .aload_n 0, 32, 0, 0), (32, .getfield 7, 35, 5, 5), (35, .iload 4, 37, 0, 0), (37, .iaload, 38, 0, 0), (38, .iload_n 1, 39, 0, 0), (39, .if_icmp .ne (Int.ofNat 45), 42, 84, 0), (42, .aload_n 0, 43, 0, 0), (43, .getfield 13, 46, 5, 6), (46, .iload 4, 48, 0, 0), (48, .baload, 49, 0, 0), (49, .ifCond .eq (Int.ofNat 35), 52, 84, 0), (52, .aload_n 0, 53, 0, 0), (53, .iload 4, 55, 0, 0), (55, .invokevirtual 96, 58, 97, 1), (58, .aload_n 0, 59, 0, 0), (59, .getfield 7, 62, 5, 5), (62, .iload 4, 64, 0, 0), (64, .iaload, 65, 0, 0), (65, .iconst (Int.negSucc 0), 66, 0, 0), (66, .if_icmp .eq (Int.ofNat 12), 69, 78, 0), (69, .aload_n 0, 70, 0, 0), (70, .iload 4, 72, 0, 0), (72, .invokevirtual 99, 75, 96, 1), (75, .ifCond .le (Int.ofNat 7), 78, 82, 0), (78, .iconst (Int.ofNat 1), 79, 0, 0), (79, .goto (Int.ofNat 4), 82, 83, 0), (82, .iconst (Int.ofNat 0), 83, 0, 0), (83, .istore_n 3, 84, 0, 0), (84, .iinc 4 (Int.ofNat 1), 87, 0, 0), (87, .goto (Int.negSucc 68), 90, 18, 0), (90, .aload_n 0, 91, 0, 0), (91, .iload_n 1, 92, 0, 0), (92, .invokevirtual 93, 95, 98, 1), (95, .istore_n 2, 96, 0, 0), (96, .iload_n 2, 97, 0, 0), (97, .iconst (Int.negSucc 0), 98, 0, 0), (98, .if_icmp .ne (Int.ofNat 11), 101, 109, 0), (101, .aload_n 0, 102, 0, 0), (102, .iload_n 1, 103, 0, 0), (103, .invokevirtual 102, 106, 99, 1), (106, .goto (Int.ofNat 4), 109, 110, 0), (109, .iload_n 2, 110, 0, 0), (110, .istore_n 2, 111, 0, 0), (111, .iconst (Int.ofNat 0), 112, 0, 0), (112, .istore 4, 114, 0, 0), (114, .iload 4, 116, 0, 0), (116, .aload_n 0, 117, 0, 0), (117, .getfield 47, 120, 5, 1), (120, .if_icmp .ge (Int.ofNat 62), 123, 182, 0), (123, .iload_n 2, 124, 0, 0), (124, .iconst (Int.negSucc 0), 125, 0, 0), (125, .if_icmp .ne (Int.ofNat 57), 128, 182, 0), (128, .aload_n 0, 129, 0, 0), (129, .getfield 13, 132, 5, 6), (132, .iload 4, 134, 0, 0), (134, .baload, 135, 0, 0), (135, .ifCond .eq (Int.ofNat 41), 138, 176, 0), (138, .aload_n 0, 139, 0, 0), (139, .getfield 7, 142, 5, 5), (142, .iload 4, 144, 0, 0), (144, .iaload, 145, 0, 0), (145, .iload_n 1, 146, 0, 0), (146, .if_icmp .eq (Int.ofNat 30), 149, 176, 0), (149, .aload_n 0, 150, 0, 0), (150, .iload 4, 152, 0, 0), (152, .invokevirtual 96, 155, 97, 1), (155, .aload_n 0, 156, 0, 0), (156, .getfield 7, 159, 5, 5), (159, .iload 4, 161, 0, 0), (161, .iaload, 162, 0, 0), (162, .iconst (Int.negSucc 0), 163, 0, 0), (163, .if_icmp .ne (Int.ofNat 11), 166, 174, 0), (166, .aload_n 0, 167, 0, 0), (167, .iload_n 1, 168, 0, 0), (168, .invokevirtual 102, 171, 99, 1), (171, .goto (Int.ofNat 4), 174, 175, 0), (174, .iconst (Int.negSucc 0), 175, 0, 0), (175, .istore_n 2, 176, 0, 0), (176, .iinc 4 (Int.ofNat 1), 179, 0, 0), (179, .goto (Int.negSucc 64), 182, 114, 0), (182, .iload_n 2, 183, 0, 0), (183, .ireturn, 184, 0, 0)])
def xm_101 : xM := (yX5_make, cX5_make, 6, (some .int), { frames := 4, cells := 0, slots := 0, locals := 90 }, (false, false), 5, [(0, .aload_n 0, 1, 0, 0), (1, .iconst (Int.ofNat 0), 2, 0, 0), (2, .putfield 51, 5, 5, 0), (5, .iload_n 1, 6, 0, 0), (6, .invokestatic 105, 9, 87, 1), (9, .ifCond .eq (Int.ofNat 13), 12, 22, 0), (12, .iload_n 2, 13, 0, 0), (13, .iconst (Int.ofNat 0), 14, 0, 0), (14, .bipush (Int.ofNat 15), 16, 0, 0), (16, .invokestatic 54, 19, 86, 3), (19, .ifCond .ne (Int.ofNat 6), 22, 25, 0), (22, .bipush (Int.negSucc 1), 24, 0, 0), (24, .ireturn, 25, 0, 0), (25, .aload_n 0, 26, 0, 0), (26, .getfield 109, 29, 5, 2), (29, .sipush (Int.ofNat 2000), 32, 0, 0), (32, .if_icmp .ne (Int.ofNat 6), 35, 38, 0), (35, .bipush (Int.negSucc 3), 37, 0, 0), (37, .ireturn, 38, 0, 0), (38, .iload_n 2, 39, 0, 0), (39, .iconst (Int.ofNat 2), 40, 0, 0), (40, .if_icmp .ge (Int.ofNat 7), 43, 47, 0), (43, .iconst (Int.ofNat 0), 44, 0, 0), (44, .goto (Int.ofNat 23), 47, 67, 0), (47, .iload_n 2, 48, 0, 0), (48, .iconst (Int.ofNat 4), 49, 0, 0), (49, .if_icmp .ge (Int.ofNat 7), 52, 56, 0), (52, .iconst (Int.ofNat 1), 53, 0, 0), (53, .goto (Int.ofNat 14), 56, 67, 0), (56, .iload_n 2, 57, 0, 0), (57, .bipush (Int.ofNat 8), 59, 0, 0), (59, .if_icmp .ge (Int.ofNat 7), 62, 66, 0), (62, .iconst (Int.ofNat 2), 63, 0, 0), (63, .goto (Int.ofNat 4), 66, 67, 0), (66, .iconst (Int.ofNat 3), 67, 0, 0), (67, .istore_n 3, 68, 0, 0), (68, .aload_n 0, 69, 0, 0), (69, .iload_n 3, 70, 0, 0), (70, .invokevirtual 112, 73, 100, 1), (73, .istore 4, 75, 0, 0), (75, .iload 4, 77, 0, 0), (77, .iconst (Int.negSucc 0), 78, 0, 0), (78, .if_icmp .ne (Int.ofNat 14), 81, 92, 0), (81, .aload_n 0, 82, 0, 0), (82, .invokevirtual 115, 85, 94, 0), (85, .aload_n 0, 86, 0, 0), (86, .iload_n 3, 87, 0, 0), (87, .invokevirtual 112, 90, 100, 1), (90, .istore 4, 92, 0, 0), (92, .iload 4, 94, 0, 0), (94, .iconst (Int.negSucc 0), 95, 0, 0), (95, .if_icmp .ne (Int.ofNat 6), 98, 101, 0), (98, .bipush (Int.negSucc 3), 100, 0, 0), (100, .ireturn, 101, 0, 0), (101, .aload_n 0, 102, 0, 0), (102, .getfield 17, 105, 5, 7), (105, .iload 4, 107, 0, 0), (107, .aload_n 0, 108, 0, 0), (108, .getfield 109, 111, 5, 2), (111, .iastore, 112, 0, 0), (112, .aload_n 0, 113, 0, 0), (113, .dup, 114, 0, 0), (114, .getfield 109, 117, 5, 2), (117, .iconst (Int.ofNat 1), 118, 0, 0), (118, .iadd, 119, 0, 0), (119, .putfield 109, 122, 5, 2), (122, .aload_n 0, 123, 0, 0), (123, .getfield 20, 126, 5, 8), (126, .iload 4, 128, 0, 0), (128, .iload_n 2, 129, 0, 0), (129, .iastore, 130, 0, 0), (130, .aload_n 0, 131, 0, 0), (131, .getfield 23, 134, 5, 9), (134, .iload 4, 136, 0, 0), (136, .iconst (Int.ofNat 0), 137, 0, 0), (137, .bastore, 138, 0, 0), (138, .aload_n 0, 139, 0, 0), (139, .getfield 26, 142, 5, 10), (142, .iload 4, 144, 0, 0), (144, .iconst (Int.ofNat 0), 145, 0, 0), (145, .bastore, 146, 0, 0), (146, .iconst (Int.ofNat 1), 147, 0, 0), (147, .istore 5, 149, 0, 0), (149, .iload 5, 151, 0, 0), (151, .iload_n 2, 152, 0, 0), (152, .if_icmp .gt (Int.ofNat 31), 155, 183, 0), (155, .aload_n 0, 156, 0, 0), (156, .getfield 29, 159, 5, 11), (159, .iload 4, 161, 0, 0), (161, .iload 5, 163, 0, 0), (163, .iadd, 164, 0, 0), (164, .iconst (Int.ofNat 0), 165, 0, 0), (165, .iastore, 166, 0, 0), (166, .aload_n 0, 167, 0, 0), (167, .getfield 32, 170, 5, 12), (170, .iload 4, 172, 0, 0), (172, .iload 5, 174, 0, 0), (174, .iadd, 175, 0, 0), (175, .iconst (Int.ofNat 0), 176, 0, 0), (176, .iastore, 177, 0, 0), (177, .iinc 5 (Int.ofNat 1), 180, 0, 0), (180, .goto (Int.negSucc 30), 183, 149, 0), (183, .aload_n 0, 184, 0, 0), (184, .getfield 35, 187, 5, 13), (187, .iload_n 1, 188, 0, 0), (188, .iload 4, 190, 0, 0), (190, .iastore, 191, 0, 0), (191, .aload_n 0, 192, 0, 0), (192, .getfield 17, 195, 5, 7), (195, .iload 4, 197, 0, 0), (197, .iaload, 198, 0, 0), (198, .ireturn, 199, 0, 0)])
def xm_102 : xM := (yX5_wrong, cX5_wrong, 3, (some .int), { frames := 2, cells := 0, slots := 0, locals := 42 }, (false, false), 5, [(0, .iload_n 1, 1, 0, 0), (1, .invokestatic 105, 4, 87, 1), (4, .ifCond .eq (Int.ofNat 38), 7, 42, 0), (7, .iload_n 2, 8, 0, 0), (8, .iconst (Int.ofNat 0), 9, 0, 0), (9, .bipush (Int.ofNat 14), 11, 0, 0), (11, .invokestatic 54, 14, 86, 3), (14, .ifCond .eq (Int.ofNat 28), 17, 42, 0), (17, .aload_n 0, 18, 0, 0), (18, .getfield 35, 21, 5, 13), (21, .iload_n 1, 22, 0, 0), (22, .iaload, 23, 0, 0), (23, .iconst (Int.negSucc 0), 24, 0, 0), (24, .if_icmp .eq (Int.ofNat 21), 27, 45, 0), (27, .iload_n 2, 28, 0, 0), (28, .aload_n 0, 29, 0, 0), (29, .getfield 20, 32, 5, 8), (32, .aload_n 0, 33, 0, 0), (33, .getfield 35, 36, 5, 13), (36, .iload_n 1, 37, 0, 0), (37, .iaload, 38, 0, 0), (38, .iaload, 39, 0, 0), (39, .if_icmp .lt (Int.ofNat 6), 42, 45, 0), (42, .bipush (Int.negSucc 1), 44, 0, 0), (44, .ireturn, 45, 0, 0), (45, .aload_n 0, 46, 0, 0), (46, .getfield 35, 49, 5, 13), (49, .iload_n 1, 50, 0, 0), (50, .iaload, 51, 0, 0), (51, .iconst (Int.negSucc 0), 52, 0, 0), (52, .if_icmp .ne (Int.ofNat 8), 55, 60, 0), (55, .bipush (Int.negSucc 2), 57, 0, 0), (57, .goto (Int.ofNat 4), 60, 61, 0), (60, .iconst (Int.ofNat 0), 61, 0, 0), (61, .ireturn, 62, 0, 0)])
def xm_103 : xM := (yX5_set, cX5_set, 5, (some .int), { frames := 3, cells := 0, slots := 0, locals := 64 }, (false, false), 5, [(0, .aload_n 0, 1, 0, 0), (1, .iconst (Int.ofNat 0), 2, 0, 0), (2, .putfield 51, 5, 5, 0), (5, .aload_n 0, 6, 0, 0), (6, .iload_n 1, 7, 0, 0), (7, .iload_n 2, 8, 0, 0), (8, .invokevirtual 118, 11, 102, 2), (11, .istore 4, 13, 0, 0), (13, .iload 4, 15, 0, 0), (15, .ifCond .ne (Int.ofNat 35), 18, 50, 0), (18, .aload_n 0, 19, 0, 0), (19, .getfield 29, 22, 5, 11), (22, .aload_n 0, 23, 0, 0), (23, .getfield 35, 26, 5, 13), (26, .iload_n 1, 27, 0, 0), (27, .iaload, 28, 0, 0), (28, .iconst (Int.ofNat 1), 29, 0, 0), (29, .iadd, 30, 0, 0), (30, .iload_n 2, 31, 0, 0), (31, .iadd, 32, 0, 0), (32, .iconst (Int.ofNat 0), 33, 0, 0), (33, .iastore, 34, 0, 0), (34, .aload_n 0, 35, 0, 0), (35, .getfield 32, 38, 5, 12), (38, .aload_n 0, 39, 0, 0), (39, .getfield 35, 42, 5, 13), (42, .iload_n 1, 43, 0, 0), (43, .iaload, 44, 0, 0), (44, .iconst (Int.ofNat 1), 45, 0, 0), (45, .iadd, 46, 0, 0), (46, .iload_n 2, 47, 0, 0), (47, .iadd, 48, 0, 0), (48, .iload_n 3, 49, 0, 0), (49, .iastore, 50, 0, 0), (50, .iload 4, 52, 0, 0), (52, .ireturn, 53, 0, 0)])
def xm_104 : xM := (yX5_link, cX5_link, 6, (some .int), { frames := 3, cells := 0, slots := 0, locals := 64 }, (false, false), 5, [(0, .aload_n 0, 1, 0, 0), (1, .iconst (Int.ofNat 0), 2, 0, 0), (2, .putfield 51, 5, 5, 0), (5, .aload_n 0, 6, 0, 0), (6, .iload_n 1, 7, 0, 0), (7, .iload_n 2, 8, 0, 0), (8, .invokevirtual 118, 11, 102, 2), (11, .istore 5, 13, 0, 0), (13, .iload_n 3, 14, 0, 0), (14, .invokestatic 105, 17, 87, 1), (17, .ifCond .ne (Int.ofNat 6), 20, 23, 0), (20, .bipush (Int.negSucc 1), 22, 0, 0), (22, .ireturn, 23, 0, 0), (23, .iload 5, 25, 0, 0), (25, .ifCond .eq (Int.ofNat 6), 28, 31, 0), (28, .iload 5, 30, 0, 0), (30, .ireturn, 31, 0, 0), (31, .aload_n 0, 32, 0, 0), (32, .getfield 35, 35, 5, 13), (35, .iload_n 3, 36, 0, 0), (36, .iaload, 37, 0, 0), (37, .iconst (Int.negSucc 0), 38, 0, 0), (38, .if_icmp .ne (Int.ofNat 6), 41, 44, 0), (41, .bipush (Int.negSucc 2), 43, 0, 0), (43, .ireturn, 44, 0, 0), (44, .aload_n 0, 45, 0, 0), (45, .getfield 29, 48, 5, 11), (48, .aload_n 0, 49, 0, 0), (49, .getfield 35, 52, 5, 13), (52, .iload_n 1, 53, 0, 0), (53, .iaload, 54, 0, 0), (54, .iconst (Int.ofNat 1), 55, 0, 0), (55, .iadd, 56, 0, 0), (56, .iload_n 2, 57, 0, 0), (57, .iadd, 58, 0, 0), (58, .iload 4, 60, 0, 0), (60, .ifCond .eq (Int.ofNat 7), 63, 67, 0), (63, .iconst (Int.ofNat 2), 64, 0, 0), (64, .goto (Int.ofNat 4), 67, 68, 0), (67, .iconst (Int.ofNat 1), 68, 0, 0), (68, .iastore, 69, 0, 0), (69, .aload_n 0, 70, 0, 0), (70, .getfield 32, 73, 5, 12), (73, .aload_n 0, 74, 0, 0), (74, .getfield 35, 77, 5, 13), (77, .iload_n 1, 78, 0, 0), (78, .iaload, 79, 0, 0), (79, .iconst (Int.ofNat 1), 80, 0, 0), (80, .iadd, 81, 0, 0), (81, .iload_n 2, 82, 0, 0), (82, .iadd, 83, 0, 0), (83, .aload_n 0, 84, 0, 0), (84, .getfield 35, 87, 5, 13), (87, .iload_n 3, 88, 0, 0), (88, .iaload, 89, 0, 0), (89, .iastore, 90, 0, 0), (90, .iconst (Int.ofNat 0), 91, 0, 0), (91, .ireturn, 92, 0, 0)])
def xm_105 : xM := (yX5_refers, cX5_refers, 4, (some .int), { frames := 3, cells := 0, slots := 0, locals := 64 }, (false, false), 5, [(0, .aload_n 0, 1, 0, 0), (1, .iconst (Int.ofNat 0), 2, 0, 0), (2, .putfield 51, 5, 5, 0), (5, .aload_n 0, 6, 0, 0), (6, .iload_n 1, 7, 0, 0), (7, .iload_n 2, 8, 0, 0), (8, .invokevirtual 118, 11, 102, 2), (11, .istore_n 3, 12, 0, 0), (12, .iload_n 3, 13, 0, 0), (13, .ifCond .eq (Int.ofNat 7), 16, 20, 0), (16, .iload_n 3, 17, 0, 0), (17, .goto (Int.ofNat 18), 20, 35, 0), (20, .aload_n 0, 21, 0, 0), (21, .getfield 29, 24, 5, 11), (24, .aload_n 0, 25, 0, 0), (25, .getfield 35, 28, 5, 13), (28, .iload_n 1, 29, 0, 0), (29, .iaload, 30, 0, 0), (30, .iconst (Int.ofNat 1), 31, 0, 0), (31, .iadd, 32, 0, 0), (32, .iload_n 2, 33, 0, 0), (33, .iadd, 34, 0, 0), (34, .iaload, 35, 0, 0), (35, .ireturn, 36, 0, 0)])
def xm_106 : xM := (yX5_number, cX5_number, 3, (some .int), { frames := 3, cells := 0, slots := 0, locals := 64 }, (false, false), 5, [(0, .aload_n 0, 1, 0, 0), (1, .iconst (Int.ofNat 0), 2, 0, 0), (2, .putfield 51, 5, 5, 0), (5, .aload_n 0, 6, 0, 0), (6, .iload_n 1, 7, 0, 0), (7, .iload_n 2, 8, 0, 0), (8, .invokevirtual 118, 11, 102, 2), (11, .ifCond .ne (Int.ofNat 21), 14, 32, 0), (14, .aload_n 0, 15, 0, 0), (15, .getfield 29, 18, 5, 11), (18, .aload_n 0, 19, 0, 0), (19, .getfield 35, 22, 5, 13), (22, .iload_n 1, 23, 0, 0), (23, .iaload, 24, 0, 0), (24, .iconst (Int.ofNat 1), 25, 0, 0), (25, .iadd, 26, 0, 0), (26, .iload_n 2, 27, 0, 0), (27, .iadd, 28, 0, 0), (28, .iaload, 29, 0, 0), (29, .ifCond .eq (Int.ofNat 7), 32, 36, 0), (32, .iconst (Int.ofNat 0), 33, 0, 0), (33, .goto (Int.ofNat 18), 36, 51, 0), (36, .aload_n 0, 37, 0, 0), (37, .getfield 32, 40, 5, 12), (40, .aload_n 0, 41, 0, 0), (41, .getfield 35, 44, 5, 13), (44, .iload_n 1, 45, 0, 0), (45, .iaload, 46, 0, 0), (46, .iconst (Int.ofNat 1), 47, 0, 0), (47, .iadd, 48, 0, 0), (48, .iload_n 2, 49, 0, 0), (49, .iadd, 50, 0, 0), (50, .iaload, 51, 0, 0), (51, .ireturn, 52, 0, 0)])
def xm_107 : xM := (yX5_load, cX5_load, 6, (some .int), { frames := 3, cells := 0, slots := 0, locals := 64 }, (false, false), 5, [(0, .aload_n 0, 1, 0, 0), (1, .iconst (Int.ofNat 0), 2, 0, 0), (2, .putfield 51, 5, 5, 0), (5, .aload_n 0, 6, 0, 0), (6, .iload_n 2, 7, 0, 0), (7, .iload_n 3, 8, 0, 0), (8, .invokevirtual 118, 11, 102, 2), (11, .istore 4, 13, 0, 0), (13, .iload_n 1, 14, 0, 0), (14, .invokestatic 105, 17, 87, 1), (17, .ifCond .ne (Int.ofNat 6), 20, 23, 0), (20, .bipush (Int.negSucc 1), 22, 0, 0), (22, .ireturn, 23, 0, 0), (23, .iload 4, 25, 0, 0), (25, .ifCond .eq (Int.ofNat 6), 28, 31, 0), (28, .iload 4, 30, 0, 0), (30, .ireturn, 31, 0, 0), (31, .aload_n 0, 32, 0, 0), (32, .getfield 35, 35, 5, 13), (35, .iload_n 2, 36, 0, 0), (36, .iaload, 37, 0, 0), (37, .iconst (Int.ofNat 1), 38, 0, 0), (38, .iadd, 39, 0, 0), (39, .iload_n 3, 40, 0, 0), (40, .iadd, 41, 0, 0), (41, .istore 5, 43, 0, 0), (43, .aload_n 0, 44, 0, 0), (44, .getfield 29, 47, 5, 11), (47, .iload 5, 49, 0, 0), (49, .iaload, 50, 0, 0), (50, .ifCond .ne (Int.ofNat 6), 53, 56, 0), (53, .bipush (Int.negSucc 2), 55, 0, 0), (55, .ireturn, 56, 0, 0), (56, .aload_n 0, 57, 0, 0), (57, .getfield 35, 60, 5, 13), (60, .iload_n 1, 61, 0, 0), (61, .aload_n 0, 62, 0, 0), (62, .getfield 32, 65, 5, 12), (65, .iload 5, 67, 0, 0), (67, .iaload, 68, 0, 0), (68, .iastore, 69, 0, 0), (69, .aload_n 0, 70, 0, 0), (70, .getfield 17, 73, 5, 7), (73, .aload_n 0, 74, 0, 0), (74, .getfield 35, 77, 5, 13), (77, .iload_n 1, 78, 0, 0), (78, .iaload, 79, 0, 0), (79, .iaload, 80, 0, 0), (80, .ireturn, 81, 0, 0)])
def xm_108 : xM := (yX5_nameOf, cX5_nameOf, 2, (some .int), { frames := 0, cells := 0, slots := 0, locals := 0 }, (false, false), 5, [(0, .iload_n 1, 1, 0, 0), (1, .iconst (Int.negSucc 0), 2, 0, 0), (2, .if_icmp .ne (Int.ofNat 7), 5, 9, 0), (5, .iconst (Int.negSucc 0), 6, 0, 0), (6, .goto (Int.ofNat 9), 9, 15, 0), (9, .aload_n 0, 10, 0, 0), (10, .getfield 17, 13, 5, 7), (13, .iload_n 1, 14, 0, 0), (14, .iaload, 15, 0, 0), (15, .ireturn, 16, 0, 0)])
def xm_109 : xM := (yX5_copy, cX5_copy, 3, (some .int), { frames := 2, cells := 0, slots := 0, locals := 42 }, (false, false), 5, [(0, .aload_n 0, 1, 0, 0), (1, .iconst (Int.ofNat 0), 2, 0, 0), (2, .putfield 51, 5, 5, 0), (5, .iload_n 1, 6, 0, 0), (6, .invokestatic 105, 9, 87, 1), (9, .ifCond .eq (Int.ofNat 10), 12, 19, 0), (12, .iload_n 2, 13, 0, 0), (13, .invokestatic 105, 16, 87, 1), (16, .ifCond .ne (Int.ofNat 6), 19, 22, 0), (19, .bipush (Int.negSucc 1), 21, 0, 0), (21, .ireturn, 22, 0, 0), (22, .aload_n 0, 23, 0, 0), (23, .getfield 35, 26, 5, 13), (26, .iload_n 1, 27, 0, 0), (27, .aload_n 0, 28, 0, 0), (28, .getfield 35, 31, 5, 13), (31, .iload_n 2, 32, 0, 0), (32, .iaload, 33, 0, 0), (33, .iastore, 34, 0, 0), (34, .aload_n 0, 35, 0, 0), (35, .aload_n 0, 36, 0, 0), (36, .getfield 35, 39, 5, 13), (39, .iload_n 1, 40, 0, 0), (40, .iaload, 41, 0, 0), (41, .invokevirtual 122, 44, 108, 1), (44, .ireturn, 45, 0, 0)])
def xm_110 : xM := (yX5_drop, cX5_drop, 3, (some .int), { frames := 2, cells := 0, slots := 0, locals := 42 }, (false, false), 5, [(0, .aload_n 0, 1, 0, 0), (1, .iconst (Int.ofNat 0), 2, 0, 0), (2, .putfield 51, 5, 5, 0), (5, .iload_n 1, 6, 0, 0), (6, .invokestatic 105, 9, 87, 1), (9, .ifCond .ne (Int.ofNat 6), 12, 15, 0), (12, .bipush (Int.negSucc 1), 14, 0, 0), (14, .ireturn, 15, 0, 0), (15, .aload_n 0, 16, 0, 0), (16, .getfield 35, 19, 5, 13), (19, .iload_n 1, 20, 0, 0), (20, .iaload, 21, 0, 0), (21, .iconst (Int.negSucc 0), 22, 0, 0), (22, .if_icmp .ne (Int.ofNat 7), 25, 29, 0), (25, .iconst (Int.ofNat 0), 26, 0, 0), (26, .goto (Int.ofNat 4), 29, 30, 0), (29, .iconst (Int.ofNat 1), 30, 0, 0), (30, .istore_n 2, 31, 0, 0), (31, .aload_n 0, 32, 0, 0), (32, .getfield 35, 35, 5, 13), (35, .iload_n 1, 36, 0, 0), (36, .iconst (Int.negSucc 0), 37, 0, 0), (37, .iastore, 38, 0, 0), (38, .iload_n 2, 39, 0, 0), (39, .ireturn, 40, 0, 0)])
def xm_111 : xM := (yX5_watch, cX5_watch, 4, (some .int), { frames := 2, cells := 0, slots := 0, locals := 42 }, (false, false), 5, [(0, .aload_n 0, 1, 0, 0), (1, .iconst (Int.ofNat 0), 2, 0, 0), (2, .putfield 51, 5, 5, 0), (5, .iload_n 1, 6, 0, 0), (6, .invokestatic 105, 9, 87, 1), (9, .ifCond .ne (Int.ofNat 6), 12, 15, 0), (12, .bipush (Int.negSucc 1), 14, 0, 0), (14, .ireturn, 15, 0, 0), (15, .aload_n 0, 16, 0, 0), (16, .getfield 35, 19, 5, 13), (19, .iload_n 1, 20, 0, 0), (20, .iaload, 21, 0, 0), (21, .iconst (Int.negSucc 0), 22, 0, 0), (22, .if_icmp .ne (Int.ofNat 6), 25, 28, 0), (25, .bipush (Int.negSucc 2), 27, 0, 0), (27, .ireturn, 28, 0, 0), (28, .aload_n 0, 29, 0, 0), (29, .getfield 26, 32, 5, 10), (32, .aload_n 0, 33, 0, 0), (33, .getfield 35, 36, 5, 13), (36, .iload_n 1, 37, 0, 0), (37, .iaload, 38, 0, 0), (38, .baload, 39, 0, 0), (39, .ifCond .eq (Int.ofNat 7), 42, 46, 0), (42, .iconst (Int.ofNat 1), 43, 0, 0), (43, .goto (Int.ofNat 4), 46, 47, 0), (46, .iconst (Int.ofNat 0), 47, 0, 0), (47, .istore_n 3, 48, 0, 0), (48, .aload_n 0, 49, 0, 0), (49, .getfield 26, 52, 5, 10), (52, .aload_n 0, 53, 0, 0), (53, .getfield 35, 56, 5, 13), (56, .iload_n 1, 57, 0, 0), (57, .iaload, 58, 0, 0), (58, .iload_n 2, 59, 0, 0), (59, .bastore, 60, 0, 0), (60, .iload_n 3, 61, 0, 0), (61, .ireturn, 62, 0, 0)])
def xm_112 : xM := (yX5_next, cX5_next, 3, (some .int), { frames := 2, cells := 0, slots := 0, locals := 42 }, (false, false), 5, [(0, .aload_n 0, 1, 0, 0), (1, .iconst (Int.ofNat 0), 2, 0, 0), (2, .putfield 51, 5, 5, 0), (5, .iload_n 1, 6, 0, 0), (6, .invokestatic 105, 9, 87, 1), (9, .ifCond .ne (Int.ofNat 6), 12, 15, 0), (12, .bipush (Int.negSucc 1), 14, 0, 0), (14, .ireturn, 15, 0, 0), (15, .aload_n 0, 16, 0, 0), (16, .getfield 68, 19, 5, 14), (19, .ifCond .ne (Int.ofNat 5), 22, 24, 0), (22, .iconst (Int.negSucc 0), 23, 0, 0), (23, .ireturn, 24, 0, 0), (24, .aload_n 0, 25, 0, 0), (25, .getfield 35, 28, 5, 13), (28, .iload_n 1, 29, 0, 0), (29, .aload_n 0, 30, 0, 0), (30, .getfield 38, 33, 5, 15), (33, .iconst (Int.ofNat 0), 34, 0, 0), (34, .iaload, 35, 0, 0), (35, .iastore, 36, 0, 0), (36, .aload_n 0, 37, 0, 0), (37, .dup, 38, 0, 0), (38, .getfield 68, 41, 5, 14), (41, .iconst (Int.ofNat 1), 42, 0, 0), (42, .isub, 43, 0, 0), (43, .putfield 68, 46, 5, 14), (46, .iconst (Int.ofNat 0), 47, 0, 0), (47, .istore_n 2, 48, 0, 0), (48, .iload_n 2, 49, 0, 0), (49, .aload_n 0, 50, 0, 0), (50, .getfield 68, 53, 5, 14), (53, .if_icmp .ge (Int.ofNat 23), 56, 76, 0), (56, .aload_n 0, 57, 0, 0), (57, .getfield 38, 60, 5, 15), (60, .iload_n 2, 61, 0, 0), (61, .aload_n 0, 62, 0, 0), (62, .getfield 38, 65, 5, 15), (65, .iload_n 2, 66, 0, 0), (66, .iconst (Int.ofNat 1), 67, 0, 0), (67, .iadd, 68, 0, 0), (68, .iaload, 69, 0, 0), (69, .iastore, 70, 0, 0), (70, .iinc 2 (Int.ofNat 1), 73, 0, 0), (73, .goto (Int.negSucc 24), 76, 48, 0), (76, .aload_n 0, 77, 0, 0), (77, .getfield 17, 80, 5, 7), (80, .aload_n 0, 81, 0, 0), (81, .getfield 35, 84, 5, 13), (84, .iload_n 1, 85, 0, 0), (85, .iaload, 86, 0, 0), (86, .iaload, 87, 0, 0), (87, .ireturn, 88, 0, 0)])
def xm_113 : xM := (yX5_mark, cX5_mark, 1, (some .int), { frames := 4, cells := 0, slots := 0, locals := 90 }, (false, false), 5, [(0, .aload_n 0, 1, 0, 0), (1, .iconst (Int.ofNat 0), 2, 0, 0), (2, .putfield 51, 5, 5, 0), (5, .aload_n 0, 6, 0, 0), (6, .invokevirtual 115, 9, 94, 0), (9, .aload_n 0, 10, 0, 0), (10, .getfield 58, 13, 5, 16), (13, .ireturn, 14, 0, 0)])
def xm_114 : xM := (yX5_sweep, cX5_sweep, 2, (some .int), { frames := 2, cells := 0, slots := 0, locals := 45 }, (false, false), 5, [(0, .aload_n 0, 1, 0, 0), (1, .iconst (Int.ofNat 0), 2, 0, 0), (2, .putfield 51, 5, 5, 0), (5, .iconst (Int.ofNat 0), 6, 0, 0), (6, .istore_n 1, 7, 0, 0), (7, .iload_n 1, 8, 0, 0), (8, .aload_n 0, 9, 0, 0), (9, .getfield 47, 12, 5, 1), (12, .if_icmp .ge (Int.ofNat 25), 15, 37, 0), (15, .aload_n 0, 16, 0, 0), (16, .getfield 13, 19, 5, 6), (19, .iload_n 1, 20, 0, 0), (20, .baload, 21, 0, 0), (21, .ifCond .eq (Int.ofNat 10), 24, 31, 0), (24, .aload_n 0, 25, 0, 0), (25, .iload_n 1, 26, 0, 0), (26, .invokevirtual 96, 29, 97, 1), (29, .iload_n 1, 30, 0, 0), (30, .ireturn, 31, 0, 0), (31, .iinc 1 (Int.ofNat 1), 34, 0, 0), (34, .goto (Int.negSucc 26), 37, 7, 0), (37, .iconst (Int.negSucc 0), 38, 0, 0), (38, .ireturn, 39, 0, 0)])
def xm_115 : xM := (yX5_object, cX5_object, 4, (some .int), { frames := 2, cells := 0, slots := 0, locals := 42 }, (false, false), 5, [(0, .aload_n 0, 1, 0, 0), (1, .iconst (Int.ofNat 0), 2, 0, 0), (2, .putfield 51, 5, 5, 0), (5, .iload_n 1, 6, 0, 0), (6, .invokestatic 105, 9, 87, 1), (9, .ifCond .eq (Int.ofNat 12), 12, 21, 0), (12, .iload_n 2, 13, 0, 0), (13, .iconst (Int.ofNat 0), 14, 0, 0), (14, .iconst (Int.ofNat 5), 15, 0, 0), (15, .invokestatic 54, 18, 86, 3), (18, .ifCond .ne (Int.ofNat 6), 21, 24, 0), (21, .bipush (Int.negSucc 1), 23, 0, 0), (23, .ireturn, 24, 0, 0), (24, .aload_n 0, 25, 0, 0), (25, .getfield 35, 28, 5, 13), (28, .iload_n 1, 29, 0, 0), (29, .iaload, 30, 0, 0), (30, .istore_n 3, 31, 0, 0), (31, .iload_n 3, 32, 0, 0), (32, .iconst (Int.negSucc 0), 33, 0, 0), (33, .if_icmp .ne (Int.ofNat 6), 36, 39, 0), (36, .bipush (Int.negSucc 2), 38, 0, 0), (38, .ireturn, 39, 0, 0), (39, .iload_n 2, 40, 0, 0), (40, .tableswitch 77 0 4 #[36, 43, 45, 52, 62], 76, 0, 36), (76, .aload_n 0, 77, 0, 0), (77, .getfield 17, 80, 5, 7), (80, .iload_n 3, 81, 0, 0), (81, .iaload, 82, 0, 0), (82, .ireturn, 83, 0, 0), (83, .iload_n 3, 84, 0, 0), (84, .ireturn, 85, 0, 0), (85, .aload_n 0, 86, 0, 0), (86, .getfield 20, 89, 5, 8), (89, .iload_n 3, 90, 0, 0), (90, .iaload, 91, 0, 0), (91, .ireturn, 92, 0, 0), (92, .aload_n 0, 93, 0, 0), (93, .getfield 7, 96, 5, 5), (96, .iload_n 3, 97, 0, 0), (97, .bipush (Int.ofNat 32), 99, 0, 0), (99, .idiv, 100, 0, 0), (100, .iaload, 101, 0, 0), (101, .ireturn, 102, 0, 0), (102, .aload_n 0, 103, 0, 0), (103, .getfield 26, 106, 5, 10), (106, .iload_n 3, 107, 0, 0), (107, .baload, 108, 0, 0), (108, .ifCond .eq (Int.ofNat 7), 111, 115, 0), (111, .iconst (Int.ofNat 1), 112, 0, 0), (112, .goto (Int.ofNat 4), 115, 116, 0), (115, .iconst (Int.ofNat 0), 116, 0, 0), (116, .ireturn, 117, 0, 0), (117, .aload_n 0, 118, 0, 0), (118, .getfield 23, 121, 5, 9), (121, .iload_n 3, 122, 0, 0), (122, .baload, 123, 0, 0), (123, .ifCond .eq (Int.ofNat 7), 126, 130, 0), (126, .iconst (Int.ofNat 1), 127, 0, 0), (127, .goto (Int.ofNat 4), 130, 131, 0), (130, .iconst (Int.ofNat 0), 131, 0, 0), (131, .ireturn, 132, 0, 0)])
def xm_116 : xM := (yX5_at, cX5_at, 3, (some .int), { frames := 1, cells := 0, slots := 0, locals := 22 }, (false, false), 5, [(0, .aload_n 0, 1, 0, 0), (1, .iconst (Int.ofNat 0), 2, 0, 0), (2, .putfield 51, 5, 5, 0), (5, .iload_n 1, 6, 0, 0), (6, .iconst (Int.ofNat 0), 7, 0, 0), (7, .bipush (Int.ofNat 32), 9, 0, 0), (9, .aload_n 0, 10, 0, 0), (10, .getfield 47, 13, 5, 1), (13, .imul, 14, 0, 0), (14, .iconst (Int.ofNat 1), 15, 0, 0), (15, .isub, 16, 0, 0), (16, .invokestatic 54, 19, 86, 3), (19, .ifCond .ne (Int.ofNat 6), 22, 25, 0), (22, .bipush (Int.negSucc 1), 24, 0, 0), (24, .ireturn, 25, 0, 0), (25, .aload_n 0, 26, 0, 0), (26, .getfield 7, 29, 5, 5), (29, .iload_n 1, 30, 0, 0), (30, .bipush (Int.ofNat 32), 32, 0, 0), (32, .idiv, 33, 0, 0), (33, .iaload, 34, 0, 0), (34, .istore_n 2, 35, 0, 0), (35, .iload_n 2, 36, 0, 0), (36, .iconst (Int.negSucc 0), 37, 0, 0), (37, .if_icmp .ne (Int.ofNat 7), 40, 44, 0), (40, .iconst (Int.negSucc 0), 41, 0, 0), (41, .goto (Int.ofNat 16), 44, 57, 0), (44, .aload_n 0, 45, 0, 0), (45, .getfield 17, 48, 5, 7), (48, .iload_n 1, 49, 0, 0), (49, .iload_n 1, 50, 0, 0), (50, .iload_n 2, 51, 0, 0), (51, .invokestatic 83, 54, 88, 1), (54, .irem, 55, 0, 0), (55, .isub, 56, 0, 0), (56, .iaload, 57, 0, 0), (57, .ireturn, 58, 0, 0)])
def xm_117 : xM := (yX5_block, cX5_block, 3, (some .int), { frames := 2, cells := 0, slots := 0, locals := 44 }, (false, false), 5, [(0, .aload_n 0, 1, 0, 0), (1, .iconst (Int.ofNat 0), 2, 0, 0), (2, .putfield 51, 5, 5, 0), (5, .iload_n 1, 6, 0, 0), (6, .iconst (Int.ofNat 0), 7, 0, 0), (7, .aload_n 0, 8, 0, 0), (8, .getfield 47, 11, 5, 1), (11, .iconst (Int.ofNat 1), 12, 0, 0), (12, .isub, 13, 0, 0), (13, .invokestatic 54, 16, 86, 3), (16, .ifCond .eq (Int.ofNat 12), 19, 28, 0), (19, .iload_n 2, 20, 0, 0), (20, .iconst (Int.ofNat 0), 21, 0, 0), (21, .iconst (Int.ofNat 3), 22, 0, 0), (22, .invokestatic 54, 25, 86, 3), (25, .ifCond .ne (Int.ofNat 6), 28, 31, 0), (28, .bipush (Int.negSucc 1), 30, 0, 0), (30, .ireturn, 31, 0, 0), (31, .iload_n 2, 32, 0, 0), (32, .ifCond .ne (Int.ofNat 12), 35, 44, 0), (35, .aload_n 0, 36, 0, 0), (36, .getfield 7, 39, 5, 5), (39, .iload_n 1, 40, 0, 0), (40, .iaload, 41, 0, 0), (41, .goto (Int.ofNat 43), 44, 84, 0), (44, .iload_n 2, 45, 0, 0), (45, .iconst (Int.ofNat 1), 46, 0, 0), (46, .if_icmp .ne (Int.ofNat 20), 49, 66, 0), (49, .aload_n 0, 50, 0, 0), (50, .getfield 13, 53, 5, 6), (53, .iload_n 1, 54, 0, 0), (54, .baload, 55, 0, 0), (55, .ifCond .eq (Int.ofNat 7), 58, 62, 0), (58, .iconst (Int.ofNat 1), 59, 0, 0), (59, .goto (Int.ofNat 25), 62, 84, 0), (62, .iconst (Int.ofNat 0), 63, 0, 0), (63, .goto (Int.ofNat 21), 66, 84, 0), (66, .iload_n 2, 67, 0, 0), (67, .iconst (Int.ofNat 2), 68, 0, 0), (68, .if_icmp .ne (Int.ofNat 11), 71, 79, 0), (71, .aload_n 0, 72, 0, 0), (72, .iload_n 1, 73, 0, 0), (73, .invokevirtual 87, 76, 95, 1), (76, .goto (Int.ofNat 8), 79, 84, 0), (79, .aload_n 0, 80, 0, 0), (80, .iload_n 1, 81, 0, 0), (81, .invokevirtual 99, 84, 96, 1), (84, .ireturn, 85, 0, 0)])
def xm_118 : xM := (yX5_blocksThat, cX5_blocksThat, 4, (some .int), { frames := 0, cells := 0, slots := 0, locals := 0 }, (false, false), 5, [(0, .iconst (Int.ofNat 0), 1, 0, 0), (1, .istore_n 2, 2, 0, 0), (2, .iconst (Int.ofNat 0), 3, 0, 0), (3, .istore_n 3, 4, 0, 0), (4, .iload_n 3, 5, 0, 0), (5, .aload_n 0, 6, 0, 0), (6, .getfield 47, 9, 5, 1), (9, .if_icmp .ge (Int.ofNat 43), 12, 52, 0), (12, .iload_n 2, 13, 0, 0), (13, .iload_n 1, 14, 0, 0), (14, .ifCond .eq (Int.ofNat 16), 17, 30, 0), (17, .aload_n 0, 18, 0, 0), (18, .getfield 7, 21, 5, 5), (21, .iload_n 3, 22, 0, 0), (22, .iaload, 23, 0, 0), (23, .iconst (Int.negSucc 0), 24, 0, 0), (24, .if_icmp .ne (Int.ofNat 19), 27, 43, 0), (27, .goto (Int.ofNat 12), 30, 39, 0), (30, .aload_n 0, 31, 0, 0), (31, .getfield 13, 34, 5, 6), (34, .iload_n 3, 35, 0, 0), (35, .baload, 36, 0, 0), (36, .ifCond .eq (Int.ofNat 7), 39, 43, 0), (39, .iconst (Int.ofNat 1), 40, 0, 0), (40, .goto (Int.ofNat 4), 43, 44, 0), (43, .iconst (Int.ofNat 0), 44, 0, 0), (44, .iadd, 45, 0, 0), (45, .istore_n 2, 46, 0, 0), (46, .iinc 3 (Int.ofNat 1), 49, 0, 0), (49, .goto (Int.negSucc 44), 52, 4, 0), (52, .iload_n 2, 53, 0, 0), (53, .ireturn, 54, 0, 0)])
def xm_119 : xM := (yX5_objects, cX5_objects, 6, (some .int), { frames := 1, cells := 0, slots := 0, locals := 20 }, (false, false), 5, [(0, .iconst (Int.ofNat 0), 1, 0, 0), (1, .istore_n 3, 2, 0, 0), (2, .iconst (Int.ofNat 0), 3, 0, 0), (3, .istore 4, 5, 0, 0), (5, .iload 4, 7, 0, 0), (7, .bipush (Int.ofNat 32), 9, 0, 0), (9, .aload_n 0, 10, 0, 0), (10, .getfield 47, 13, 5, 1), (13, .imul, 14, 0, 0), (14, .if_icmp .ge (Int.ofNat 74), 17, 88, 0), (17, .aload_n 0, 18, 0, 0), (18, .getfield 17, 21, 5, 7), (21, .iload 4, 23, 0, 0), (23, .iaload, 24, 0, 0), (24, .iconst (Int.negSucc 0), 25, 0, 0), (25, .if_icmp .eq (Int.ofNat 21), 28, 46, 0), (28, .iload_n 2, 29, 0, 0), (29, .ifCond .eq (Int.ofNat 13), 32, 42, 0), (32, .aload_n 0, 33, 0, 0), (33, .getfield 26, 36, 5, 10), (36, .iload 4, 38, 0, 0), (38, .baload, 39, 0, 0), (39, .ifCond .eq (Int.ofNat 7), 42, 46, 0), (42, .iconst (Int.ofNat 1), 43, 0, 0), (43, .goto (Int.ofNat 4), 46, 47, 0), (46, .iconst (Int.ofNat 0), 47, 0, 0), (47, .istore 5, 49, 0, 0), (49, .iload_n 3, 50, 0, 0), (50, .iload 5, 52, 0, 0), (52, .ifCond .ne (Int.ofNat 7), 55, 59, 0), (55, .iconst (Int.ofNat 0), 56, 0, 0), (56, .goto (Int.ofNat 24), 59, 80, 0), (59, .iload_n 1, 60, 0, 0), (60, .ifCond .eq (Int.ofNat 19), 63, 79, 0), (63, .aload_n 0, 64, 0, 0), (64, .getfield 7, 67, 5, 5), (67, .iload 4, 69, 0, 0), (69, .bipush (Int.ofNat 32), 71, 0, 0), (71, .idiv, 72, 0, 0), (72, .iaload, 73, 0, 0), (73, .invokestatic 83, 76, 88, 1), (76, .goto (Int.ofNat 4), 79, 80, 0), (79, .iconst (Int.ofNat 1), 80, 0, 0), (80, .iadd, 81, 0, 0), (81, .istore_n 3, 82, 0, 0), (82, .iinc 4 (Int.ofNat 1), 85, 0, 0), (85, .goto (Int.negSucc 79), 88, 5, 0), (88, .iload_n 3, 89, 0, 0), (89, .ireturn, 90, 0, 0)])
def xm_120 : xM := (yX5_count, cX5_count, 2, (some .int), { frames := 3, cells := 0, slots := 0, locals := 64 }, (false, false), 5, [(0, .aload_n 0, 1, 0, 0), (1, .iconst (Int.ofNat 0), 2, 0, 0), (2, .putfield 51, 5, 5, 0), (5, .iload_n 1, 6, 0, 0), (6, .tableswitch 116 0 9 #[54, 61, 68, 73, 78, 83, 89, 95, 100, 107], 60, 0, 54), (60, .aload_n 0, 61, 0, 0), (61, .iconst (Int.ofNat 0), 62, 0, 0), (62, .iconst (Int.ofNat 0), 63, 0, 0), (63, .invokevirtual 125, 66, 119, 2), (66, .ireturn, 67, 0, 0), (67, .aload_n 0, 68, 0, 0), (68, .iconst (Int.ofNat 1), 69, 0, 0), (69, .iconst (Int.ofNat 0), 70, 0, 0), (70, .invokevirtual 125, 73, 119, 2), (73, .ireturn, 74, 0, 0), (74, .aload_n 0, 75, 0, 0), (75, .getfield 109, 78, 5, 2), (78, .ireturn, 79, 0, 0), (79, .aload_n 0, 80, 0, 0), (80, .getfield 74, 83, 5, 3), (83, .ireturn, 84, 0, 0), (84, .aload_n 0, 85, 0, 0), (85, .getfield 90, 88, 5, 4), (88, .ireturn, 89, 0, 0), (89, .aload_n 0, 90, 0, 0), (90, .iconst (Int.ofNat 1), 91, 0, 0), (91, .invokevirtual 129, 94, 118, 1), (94, .ireturn, 95, 0, 0), (95, .aload_n 0, 96, 0, 0), (96, .iconst (Int.ofNat 0), 97, 0, 0), (97, .invokevirtual 129, 100, 118, 1), (100, .ireturn, 101, 0, 0), (101, .aload_n 0, 102, 0, 0), (102, .getfield 68, 105, 5, 14), (105, .ireturn, 106, 0, 0), (106, .aload_n 0, 107, 0, 0), (107, .iconst (Int.ofNat 0), 108, 0, 0), (108, .iconst (Int.ofNat 1), 109, 0, 0), (109, .invokevirtual 125, 112, 119, 2), (112, .ireturn, 113, 0, 0), (113, .aload_n 0, 114, 0, 0), (114, .invokevirtual 77, 117, 92, 0), (117, .aload_n 0, 118, 0, 0), (118, .getfield 58, 121, 5, 16), (121, .ireturn, 122, 0, 0), (122, .bipush (Int.negSucc 1), 124, 0, 0), (124, .ireturn, 125, 0, 0)])
def xm_121 : xM := (yX5_same, cX5_same, 3, (some .int), { frames := 2, cells := 0, slots := 0, locals := 42 }, (false, false), 5, [(0, .aload_n 0, 1, 0, 0), (1, .iconst (Int.ofNat 0), 2, 0, 0), (2, .putfield 51, 5, 5, 0), (5, .iload_n 1, 6, 0, 0), (6, .invokestatic 105, 9, 87, 1), (9, .ifCond .eq (Int.ofNat 10), 12, 19, 0), (12, .iload_n 2, 13, 0, 0), (13, .invokestatic 105, 16, 87, 1), (16, .ifCond .ne (Int.ofNat 8), 19, 24, 0), (19, .bipush (Int.negSucc 1), 21, 0, 0), (21, .goto (Int.ofNat 23), 24, 44, 0), (24, .aload_n 0, 25, 0, 0), (25, .getfield 35, 28, 5, 13), (28, .iload_n 1, 29, 0, 0), (29, .iaload, 30, 0, 0), (30, .aload_n 0, 31, 0, 0), (31, .getfield 35, 34, 5, 13), (34, .iload_n 2, 35, 0, 0), (35, .iaload, 36, 0, 0), (36, .if_icmp .ne (Int.ofNat 7), 39, 43, 0), (39, .iconst (Int.ofNat 1), 40, 0, 0), (40, .goto (Int.ofNat 4), 43, 44, 0), (43, .iconst (Int.ofNat 0), 44, 0, 0), (44, .ireturn, 45, 0, 0)])
def xm_122 : xM := (yX5_sum, cX5_sum, 7, (some .long), { frames := 2, cells := 0, slots := 0, locals := 43 }, (false, false), 5, [(0, .aload_n 0, 1, 0, 0), (1, .iconst (Int.ofNat 0), 2, 0, 0), (2, .putfield 51, 5, 5, 0), (5, .iload_n 1, 6, 0, 0), (6, .invokestatic 105, 9, 87, 1), (9, .ifCond .ne (Int.ofNat 7), 12, 16, 0), (12, .ldc2_w 133, 15, 1000002, 0), (15, .lreturn, 16, 0, 0), (16, .aload_n 0, 17, 0, 0), (17, .getfield 35, 20, 5, 13), (20, .iload_n 1, 21, 0, 0), (21, .iaload, 22, 0, 0), (22, .iconst (Int.negSucc 0), 23, 0, 0), (23, .if_icmp .ne (Int.ofNat 5), 26, 28, 0), (26, .lconst 0, 27, 0, 0), (27, .lreturn, 28, 0, 0), (28, .aload_n 0, 29, 0, 0), (29, .invokevirtual 65, 32, 89, 0), (32, .aload_n 0, 33, 0, 0), (33, .aload_n 0, 34, 0, 0), (34, .getfield 35, 37, 5, 13), (37, .iload_n 1, 38, 0, 0), (38, .iaload, 39, 0, 0), (39, .invokevirtual 61, 42, 90, 1), (42, .aload_n 0, 43, 0, 0), (43, .invokevirtual 71, 46, 91, 0), (46, .ldc2_w 135, 49, 7, 0), (49, .lstore_n 2, 50, 0, 0), (50, .iconst (Int.ofNat 0), 51, 0, 0), (51, .istore 4, 53, 0, 0), (53, .iload 4, 55, 0, 0), (55, .aload_n 0, 56, 0, 0), (56, .getfield 58, 59, 5, 16), (59, .if_icmp .ge (Int.ofNat 128), 62, 187, 0), (62, .aload_n 0, 63, 0, 0), (63, .getfield 41, 66, 5, 17), (66, .iload 4, 68, 0, 0), (68, .iaload, 69, 0, 0), (69, .istore 5, 71, 0, 0), (71, .ldc2_w 137, 74, 31, 0), (74, .lload_n 2, 75, 0, 0), (75, .lmul, 76, 0, 0), (76, .aload_n 0, 77, 0, 0), (77, .getfield 20, 80, 5, 8), (80, .iload 5, 82, 0, 0), (82, .iaload, 83, 0, 0), (83, .i2l, 84, 0, 0), (84, .ladd, 85, 0, 0), (85, .lstore_n 2, 86, 0, 0), (86, .iload 5, 88, 0, 0), (88, .iconst (Int.ofNat 1), 89, 0, 0), (89, .iadd, 90, 0, 0), (90, .istore 6, 92, 0, 0), (92, .iload 6, 94, 0, 0), (94, .iload 5, 96, 0, 0), (96, .aload_n 0, 97, 0, 0), (97, .getfield 20, 100, 5, 8), (100, .iload 5, 102, 0, 0), (102, .iaload, 103, 0, 0), (103, .iadd, 104, 0, 0), (104, .if_icmp .gt (Int.ofNat 77), 107, 181, 0), (107, .ldc2_w 137, 110, 31, 0), (110, .lload_n 2, 111, 0, 0), (111, .lmul, 112, 0, 0), (112, .aload_n 0, 113, 0, 0), (113, .getfield 29, 116, 5, 11), (116, .iload 6, 118, 0, 0), (118, .iaload, 119, 0, 0), (119, .ifCond .ne (Int.ofNat 18), 122, 137, 0), (122, .ldc2_w 139, 125, 3, 0), (125, .aload_n 0, 126, 0, 0), (126, .getfield 32, 129, 5, 12), (129, .iload 6, 131, 0, 0), (131, .iaload, 132, 0, 0), (132, .i2l, 133, 0, 0), (133, .lmul, 134, 0, 0), (134, .goto (Int.ofNat 39), 137, 173, 0), (137, .aload_n 0, 138, 0, 0), (138, .getfield 29, 141, 5, 11), (141, .iload 6, 143, 0, 0), (143, .iaload, 144, 0, 0), (144, .iconst (Int.ofNat 1), 145, 0, 0), (145, .if_icmp .ne (Int.ofNat 25), 148, 170, 0), (148, .ldc2_w 139, 151, 3, 0), (151, .aload_n 0, 152, 0, 0), (152, .getfield 44, 155, 5, 18), (155, .aload_n 0, 156, 0, 0), (156, .getfield 32, 159, 5, 12), (159, .iload 6, 161, 0, 0), (161, .iaload, 162, 0, 0), (162, .iaload, 163, 0, 0), (163, .i2l, 164, 0, 0), (164, .lmul, 165, 0, 0), (165, .lconst 1, 166, 0, 0), (166, .ladd, 167, 0, 0), (167, .goto (Int.ofNat 6), 170, 173, 0), (170, .ldc2_w 141, 173, 2, 0), (173, .ladd, 174, 0, 0), (174, .lstore_n 2, 175, 0, 0), (175, .iinc 6 (Int.ofNat 1), 178, 0, 0), (178, .goto (Int.negSucc 85), 181, 92, 0), (181, .iinc 4 (Int.ofNat 1), 184, 0, 0), (184, .goto (Int.negSucc 130), 187, 53, 0), (187, .lload_n 2, 188, 0, 0), (188, .lreturn, 189, 0, 0)])
def xm_123 : xM := (yL_cell, cL_cell, 2, (some .int), { frames := 0, cells := 0, slots := 0, locals := 0 }, (false, false), 6, [(0, .iload_n 1, 1, 0, 0), (1, .aload_n 0, 2, 0, 0), (2, .arraylength, 3, 0, 0), (3, .if_icmp .ge (Int.ofNat 9), 6, 12, 0), (6, .aload_n 0, 7, 0, 0), (7, .iload_n 1, 8, 0, 0), (8, .iaload, 9, 0, 0), (9, .goto (Int.ofNat 4), 12, 13, 0), (12, .iconst (Int.ofNat 0), 13, 0, 0), (13, .ireturn, 14, 0, 0)])
def xm_124 : xM := (yL_law, cL_law, 4, (some .boolean), room_1, (true, false), 6, [(0, .new 7, 3, 4, 0), (3, .dup, 4, 0, 0), (4, .aload_n 0, 5, 0, 0), (5, .iconst (Int.ofNat 0), 6, 0, 0), (6, .invokestatic 9, 9, 123, 2), (9, .invokespecial 15, 12, 50, 1), (12, .astore_n 1, 13, 0, 0), (13, .new 18, 16, 5, 0), (16, .dup, 17, 0, 0), (17, .aload_n 0, 18, 0, 0), (18, .iconst (Int.ofNat 0), 19, 0, 0), (19, .invokestatic 9, 22, 123, 2), (22, .invokespecial 20, 25, 85, 1), (25, .astore_n 2, 26, 0, 0), (26, .iconst (Int.ofNat 1), 27, 0, 0), (27, .istore_n 3, 28, 0, 0), (28, .iload_n 3, 29, 0, 0), (29, .aload_n 0, 30, 0, 0), (30, .arraylength, 31, 0, 0), (31, .iconst (Int.ofNat 5), 32, 0, 0), (32, .isub, 33, 0, 0), (33, .if_icmp .gt (Int.ofNat 678), 36, 711, 0), (36, .aload_n 0, 37, 0, 0), (37, .iload_n 3, 38, 0, 0), (38, .iaload, 39, 0, 0), (39, .bipush (Int.ofNat 31), 41, 0, 0), (41, .iand, 42, 0, 0), (42, .tableswitch 663 0 17 #[86, 119, 162, 231, 264, 297, 340, 373, 396, 445, 468, 481, 494, 527, 550, 583, 606, 639], 128, 0, 86), (128, .aload_n 1, 129, 0, 0), (129, .aload_n 0, 130, 0, 0), (130, .iload_n 3, 131, 0, 0), (131, .iconst (Int.ofNat 1), 132, 0, 0), (132, .iadd, 133, 0, 0), (133, .iaload, 134, 0, 0), (134, .aload_n 0, 135, 0, 0), (135, .iload_n 3, 136, 0, 0), (136, .iconst (Int.ofNat 2), 137, 0, 0), (137, .iadd, 138, 0, 0), (138, .iaload, 139, 0, 0), (139, .invokevirtual 21, 142, 51, 2), (142, .aload_n 2, 143, 0, 0), (143, .aload_n 0, 144, 0, 0), (144, .iload_n 3, 145, 0, 0), (145, .iconst (Int.ofNat 1), 146, 0, 0), (146, .iadd, 147, 0, 0), (147, .iaload, 148, 0, 0), (148, .aload_n 0, 149, 0, 0), (149, .iload_n 3, 150, 0, 0), (150, .iconst (Int.ofNat 2), 151, 0, 0), (151, .iadd, 152, 0, 0), (152, .iaload, 153, 0, 0), (153, .invokevirtual 25, 156, 101, 2), (156, .if_icmp .eq (Int.ofNat 549), 159, 705, 0), (159, .iconst (Int.ofNat 0), 160, 0, 0), (160, .ireturn, 161, 0, 0), (161, .aload_n 1, 162, 0, 0), (162, .aload_n 0, 163, 0, 0), (163, .iload_n 3, 164, 0, 0), (164, .iconst (Int.ofNat 1), 165, 0, 0), (165, .iadd, 166, 0, 0), (166, .iaload, 167, 0, 0), (167, .aload_n 0, 168, 0, 0), (168, .iload_n 3, 169, 0, 0), (169, .iconst (Int.ofNat 2), 170, 0, 0), (170, .iadd, 171, 0, 0), (171, .iaload, 172, 0, 0), (172, .aload_n 0, 173, 0, 0), (173, .iload_n 3, 174, 0, 0), (174, .iconst (Int.ofNat 3), 175, 0, 0), (175, .iadd, 176, 0, 0), (176, .iaload, 177, 0, 0), (177, .invokevirtual 26, 180, 52, 3), (180, .aload_n 2, 181, 0, 0), (181, .aload_n 0, 182, 0, 0), (182, .iload_n 3, 183, 0, 0), (183, .iconst (Int.ofNat 1), 184, 0, 0), (184, .iadd, 185, 0, 0), (185, .iaload, 186, 0, 0), (186, .aload_n 0, 187, 0, 0), (187, .iload_n 3, 188, 0, 0), (188, .iconst (Int.ofNat 2), 189, 0, 0), (189, .iadd, 190, 0, 0), (190, .iaload, 191, 0, 0), (191, .aload_n 0, 192, 0, 0), (192, .iload_n 3, 193, 0, 0), (193, .iconst (Int.ofNat 3), 194, 0, 0), (194, .iadd, 195, 0, 0), (195, .iaload, 196, 0, 0), (196, .invokevirtual 30, 199, 103, 3), (199, .if_icmp .eq (Int.ofNat 506), 202, 705, 0), (202, .iconst (Int.ofNat 0), 203, 0, 0), (203, .ireturn, 204, 0, 0), (204, .aload_n 1, 205, 0, 0), (205, .aload_n 0, 206, 0, 0), (206, .iload_n 3, 207, 0, 0), (207, .iconst (Int.ofNat 1), 208, 0, 0), (208, .iadd, 209, 0, 0), (209, .iaload, 210, 0, 0), (210, .aload_n 0, 211, 0, 0), (211, .iload_n 3, 212, 0, 0), (212, .iconst (Int.ofNat 2), 213, 0, 0), (213, .iadd, 214, 0, 0), (214, .iaload, 215, 0, 0), (215, .aload_n 0, 216, 0, 0), (216, .iload_n 3, 217, 0, 0), (217, .iconst (Int.ofNat 3), 218, 0, 0), (218, .iadd, 219, 0, 0), (219, .iaload, 220, 0, 0), (220, .aload_n 0, 221, 0, 0), (221, .iload_n 3, 222, 0, 0), (222, .iconst (Int.ofNat 4), 223, 0, 0), (223, .iadd, 224, 0, 0), (224, .iaload, 225, 0, 0), (225, .ifCond .eq (Int.ofNat 7), 228, 232, 0), (228, .iconst (Int.ofNat 1), 229, 0, 0), (229, .goto (Int.ofNat 4), 232, 233, 0), (232, .iconst (Int.ofNat 0), 233, 0, 0), (233, .invokevirtual 31, 236, 53, 4), (236, .aload_n 2, 237, 0, 0), (237, .aload_n 0, 238, 0, 0), (238, .iload_n 3, 239, 0, 0), (239, .iconst (Int.ofNat 1), 240, 0, 0), (240, .iadd, 241, 0, 0), (241, .iaload, 242, 0, 0), (242, .aload_n 0, 243, 0, 0), (243, .iload_n 3, 244, 0, 0), (244, .iconst (Int.ofNat 2), 245, 0, 0), (245, .iadd, 246, 0, 0), (246, .iaload, 247, 0, 0), (247, .aload_n 0, 248, 0, 0), (248, .iload_n 3, 249, 0, 0), (249, .iconst (Int.ofNat 3), 250, 0, 0), (250, .iadd, 251, 0, 0), (251, .iaload, 252, 0, 0), (252, .aload_n 0, 253, 0, 0), (253, .iload_n 3, 254, 0, 0), (254, .iconst (Int.ofNat 4), 255, 0, 0), (255, .iadd, 256, 0, 0), (256, .iaload, 257, 0, 0), (257, .ifCond .eq (Int.ofNat 7), 260, 264, 0), (260, .iconst (Int.ofNat 1), 261, 0, 0), (261, .goto (Int.ofNat 4), 264, 265, 0), (264, .iconst (Int.ofNat 0), 265, 0, 0), (265, .invokevirtual 35, 268, 104, 4), (268, .if_icmp .eq (Int.ofNat 437), 271, 705, 0), (271, .iconst (Int.ofNat 0), 272, 0, 0), (272, .ireturn, 273, 0, 0), (273, .aload_n 1, 274, 0, 0), (274, .aload_n 0, 275, 0, 0), (275, .iload_n 3, 276, 0, 0), (276, .iconst (Int.ofNat 1), 277, 0, 0), (277, .iadd, 278, 0, 0), (278, .iaload, 279, 0, 0), (279, .aload_n 0, 280, 0, 0), (280, .iload_n 3, 281, 0, 0), (281, .iconst (Int.ofNat 2), 282, 0, 0), (282, .iadd, 283, 0, 0), (283, .iaload, 284, 0, 0), (284, .invokevirtual 36, 287, 54, 2), (287, .aload_n 2, 288, 0, 0), (288, .aload_n 0, 289, 0, 0), (289, .iload_n 3, 290, 0, 0), (290, .iconst (Int.ofNat 1), 291, 0, 0), (291, .iadd, 292, 0, 0), (292, .iaload, 293, 0, 0), (293, .aload_n 0, 294, 0, 0), (294, .iload_n 3, 295, 0, 0), (295, .iconst (Int.ofNat 2), 296, 0, 0), (296, .iadd, 297, 0, 0), (297, .iaload, 298, 0, 0), (298, .invokevirtual 39, 301, 105, 2), (301, .if_icmp .eq (Int.ofNat 404), 304, 705, 0), (304, .iconst (Int.ofNat 0), 305, 0, 0), (305, .ireturn, 306, 0, 0), (306, .aload_n 1, 307, 0, 0), (307, .aload_n 0, 308, 0, 0), (308, .iload_n 3, 309, 0, 0), (309, .iconst (Int.ofNat 1), 310, 0, 0), (310, .iadd, 311, 0, 0), (311, .iaload, 312, 0, 0), (312, .aload_n 0, 313, 0, 0), (313, .iload_n 3, 314, 0, 0), (314, .iconst (Int.ofNat 2), 315, 0, 0), (315, .iadd, 316, 0, 0), (316, .iaload, 317, 0, 0), (317, .invokevirtual 40, 320, 55, 2), (320, .aload_n 2, 321, 0, 0), (321, .aload_n 0, 322, 0, 0), (322, .iload_n 3, 323, 0, 0), (323, .iconst (Int.ofNat 1), 324, 0, 0), (324, .iadd, 325, 0, 0), (325, .iaload, 326, 0, 0), (326, .aload_n 0, 327, 0, 0), (327, .iload_n 3, 328, 0, 0), (328, .iconst (Int.ofNat 2), 329, 0, 0), (329, .iadd, 330, 0, 0), (330, .iaload, 331, 0, 0), (331, .invokevirtual 43, 334, 106, 2), (334, .if_icmp .eq (Int.ofNat 371), 337, 705, 0), (337, .iconst (Int.ofNat 0), 338, 0, 0), (338, .ireturn, 339, 0, 0), (339, .aload_n 1, 340, 0, 0), (340, .aload_n 0, 341, 0, 0), (341, .iload_n 3, 342, 0, 0), (342, .iconst (Int.ofNat 1), 343, 0, 0), (343, .iadd, 344, 0, 0), (344, .iaload, 345, 0, 0), (345, .aload_n 0, 346, 0, 0), (346, .iload_n 3, 347, 0, 0), (347, .iconst (Int.ofNat 2), 348, 0, 0), (348, .iadd, 349, 0, 0), (349, .iaload, 350, 0, 0), (350, .aload_n 0, 351, 0, 0), (351, .iload_n 3, 352, 0, 0), (352, .iconst (Int.ofNat 3), 353, 0, 0), (353, .iadd, 354, 0, 0), (354, .iaload, 355, 0, 0), (355, .invokevirtual 44, 358, 56, 3), (358, .aload_n 2, 359, 0, 0), (359, .aload_n 0, 360, 0, 0), (360, .iload_n 3, 361, 0, 0), (361, .iconst (Int.ofNat 1), 362, 0, 0), (362, .iadd, 363, 0, 0), (363, .iaload, 364, 0, 0), (364, .aload_n 0, 365, 0, 0), (365, .iload_n 3, 366, 0, 0), (366, .iconst (Int.ofNat 2), 367, 0, 0), (367, .iadd, 368, 0, 0), (368, .iaload, 369, 0, 0), (369, .aload_n 0, 370, 0, 0), (370, .iload_n 3, 371, 0, 0), (371, .iconst (Int.ofNat 3), 372, 0, 0), (372, .iadd, 373, 0, 0), (373, .iaload, 374, 0, 0), (374, .invokevirtual 47, 377, 107, 3), (377, .if_icmp .eq (Int.ofNat 328), 380, 705, 0), (380, .iconst (Int.ofNat 0), 381, 0, 0), (381, .ireturn, 382, 0, 0), (382, .aload_n 1, 383, 0, 0), (383, .aload_n 0, 384, 0, 0), (384, .iload_n 3, 385, 0, 0), (385, .iconst (Int.ofNat 1), 386, 0, 0), (386, .iadd, 387, 0, 0), (387, .iaload, 388, 0, 0), (388, .aload_n 0, 389, 0, 0), (389, .iload_n 3, 390, 0, 0), (390, .iconst (Int.ofNat 2), 391, 0, 0), (391, .iadd, 392, 0, 0), (392, .iaload, 393, 0, 0), (393, .invokevirtual 48, 396, 57, 2), (396, .aload_n 2, 397, 0, 0), (397, .aload_n 0, 398, 0, 0), (398, .iload_n 3, 399, 0, 0), (399, .iconst (Int.ofNat 1), 400, 0, 0), (400, .iadd, 401, 0, 0), (401, .iaload, 402, 0, 0), (402, .aload_n 0, 403, 0, 0), (403, .iload_n 3, 404, 0, 0), (404, .iconst (Int.ofNat 2), 405, 0, 0), (405, .iadd, 406, 0, 0), (406, .iaload, 407, 0, 0), (407, .invokevirtual 51, 410, 109, 2), (410, .if_icmp .eq (Int.ofNat 295), 413, 705, 0), (413, .iconst (Int.ofNat 0), 414, 0, 0), (414, .ireturn, 415, 0, 0), (415, .aload_n 1, 416, 0, 0), (416, .aload_n 0, 417, 0, 0), (417, .iload_n 3, 418, 0, 0), (418, .iconst (Int.ofNat 1), 419, 0, 0), (419, .iadd, 420, 0, 0), (420, .iaload, 421, 0, 0), (421, .invokevirtual 52, 424, 58, 1), (424, .aload_n 2, 425, 0, 0), (425, .aload_n 0, 426, 0, 0), (426, .iload_n 3, 427, 0, 0), (427, .iconst (Int.ofNat 1), 428, 0, 0), (428, .iadd, 429, 0, 0), (429, .iaload, 430, 0, 0), (430, .invokevirtual 56, 433, 110, 1), (433, .if_icmp .eq (Int.ofNat 272), 436, 705, 0), (436, .iconst (Int.ofNat 0), 437, 0, 0), (437, .ireturn, 438, 0, 0), (438, .aload_n 1, 439, 0, 0), (439, .aload_n 0, 440, 0, 0), (440, .iload_n 3, 441, 0, 0), (441, .iconst (Int.ofNat 1), 442, 0, 0), (442, .iadd, 443, 0, 0), (443, .iaload, 444, 0, 0), (444, .aload_n 0, 445, 0, 0), (445, .iload_n 3, 446, 0, 0), (446, .iconst (Int.ofNat 2), 447, 0, 0), (447, .iadd, 448, 0, 0), (448, .iaload, 449, 0, 0), (449, .ifCond .eq (Int.ofNat 7), 452, 456, 0), (452, .iconst (Int.ofNat 1), 453, 0, 0), (453, .goto (Int.ofNat 4), 456, 457, 0), (456, .iconst (Int.ofNat 0), 457, 0, 0), (457, .invokevirtual 57, 460, 59, 2), (460, .aload_n 2, 461, 0, 0), (461, .aload_n 0, 462, 0, 0), (462, .iload_n 3, 463, 0, 0), (463, .iconst (Int.ofNat 1), 464, 0, 0), (464, .iadd, 465, 0, 0), (465, .iaload, 466, 0, 0), (466, .aload_n 0, 467, 0, 0), (467, .iload_n 3, 468, 0, 0), (468, .iconst (Int.ofNat 2), 469, 0, 0), (469, .iadd, 470, 0, 0), (470, .iaload, 471, 0, 0), (471, .ifCond .eq (Int.ofNat 7), 474, 478, 0), (474, .iconst (Int.ofNat 1), 475, 0, 0), (475, .goto (Int.ofNat 4), 478, 479, 0), (478, .iconst (Int.ofNat 0), 479, 0, 0), (479, .invokevirtual 61, 482, 111, 2), (482, .if_icmp .eq (Int.ofNat 223), 485, 705, 0), (485, .iconst (Int.ofNat 0), 486, 0, 0), (486, .ireturn, 487, 0, 0), (487, .aload_n 1, 488, 0, 0), (488, .aload_n 0, 489, 0, 0), (489, .iload_n 3, 490, 0, 0), (490, .iconst (Int.ofNat 1), 491, 0, 0), (491, .iadd, 492, 0, 0), (492, .iaload, 493, 0, 0), (493, .invokevirtual 62, 496, 60, 1), (496, .aload_n 2, 497, 0, 0), (497, .aload_n 0, 498, 0, 0), (498, .iload_n 3, 499, 0, 0), (499, .iconst (Int.ofNat 1), 500, 0, 0), (500, .iadd, 501, 0, 0), (501, .iaload, 502, 0, 0), (502, .invokevirtual 65, 505, 112, 1), (505, .if_icmp .eq (Int.ofNat 200), 508, 705, 0), (508, .iconst (Int.ofNat 0), 509, 0, 0), (509, .ireturn, 510, 0, 0), (510, .aload_n 1, 511, 0, 0), (511, .invokevirtual 66, 514, 61, 0), (514, .aload_n 2, 515, 0, 0), (515, .invokevirtual 70, 518, 113, 0), (518, .if_icmp .eq (Int.ofNat 187), 521, 705, 0), (521, .iconst (Int.ofNat 0), 522, 0, 0), (522, .ireturn, 523, 0, 0), (523, .aload_n 1, 524, 0, 0), (524, .invokevirtual 71, 527, 62, 0), (527, .aload_n 2, 528, 0, 0), (528, .invokevirtual 74, 531, 114, 0), (531, .if_icmp .eq (Int.ofNat 174), 534, 705, 0), (534, .iconst (Int.ofNat 0), 535, 0, 0), (535, .ireturn, 536, 0, 0), (536, .aload_n 1, 537, 0, 0), (537, .aload_n 0, 538, 0, 0), (538, .iload_n 3, 539, 0, 0), (539, .iconst (Int.ofNat 1), 540, 0, 0), (540, .iadd, 541, 0, 0), (541, .iaload, 542, 0, 0), (542, .aload_n 0, 543, 0, 0), (543, .iload_n 3, 544, 0, 0), (544, .iconst (Int.ofNat 2), 545, 0, 0), (545, .iadd, 546, 0, 0), (546, .iaload, 547, 0, 0), (547, .invokevirtual 75, 550, 63, 2), (550, .aload_n 2, 551, 0, 0), (551, .aload_n 0, 552, 0, 0), (552, .iload_n 3, 553, 0, 0), (553, .iconst (Int.ofNat 1), 554, 0, 0), (554, .iadd, 555, 0, 0), (555, .iaload, 556, 0, 0), (556, .aload_n 0, 557, 0, 0), (557, .iload_n 3, 558, 0, 0), (558, .iconst (Int.ofNat 2), 559, 0, 0), (559, .iadd, 560, 0, 0), (560, .iaload, 561, 0, 0), (561, .invokevirtual 78, 564, 115, 2), (564, .if_icmp .eq (Int.ofNat 141), 567, 705, 0), (567, .iconst (Int.ofNat 0), 568, 0, 0), (568, .ireturn, 569, 0, 0), (569, .aload_n 1, 570, 0, 0), (570, .aload_n 0, 571, 0, 0), (571, .iload_n 3, 572, 0, 0), (572, .iconst (Int.ofNat 1), 573, 0, 0), (573, .iadd, 574, 0, 0), (574, .iaload, 575, 0, 0), (575, .invokevirtual 79, 578, 64, 1), (578, .aload_n 2, 579, 0, 0), (579, .aload_n 0, 580, 0, 0), (580, .iload_n 3, 581, 0, 0), (581, .iconst (Int.ofNat 1), 582, 0, 0), (582, .iadd, 583, 0, 0), (583, .iaload, 584, 0, 0), (584, .invokevirtual 82, 587, 116, 1), (587, .if_icmp .eq (Int.ofNat 118), 590, 705, 0), (590, .iconst (Int.ofNat 0), 591, 0, 0), (591, .ireturn, 592, 0, 0), (592, .aload_n 1, 593, 0, 0), (593, .aload_n 0, 594, 0, 0), (594, .iload_n 3, 595, 0, 0), (595, .iconst (Int.ofNat 1), 596, 0, 0), (596, .iadd, 597, 0, 0), (597, .iaload, 598, 0, 0), (598, .aload_n 0, 599, 0, 0), (599, .iload_n 3, 600, 0, 0), (600, .iconst (Int.ofNat 2), 601, 0, 0), (601, .iadd, 602, 0, 0), (602, .iaload, 603, 0, 0), (603, .invokevirtual 83, 606, 65, 2), (606, .aload_n 2, 607, 0, 0), (607, .aload_n 0, 608, 0, 0), (608, .iload_n 3, 609, 0, 0), (609, .iconst (Int.ofNat 1), 610, 0, 0), (610, .iadd, 611, 0, 0), (611, .iaload, 612, 0, 0), (612, .aload_n 0, 613, 0, 0), (613, .iload_n 3, 614, 0, 0), (614, .iconst (Int.ofNat 2), 615, 0, 0), (615, .iadd, 616, 0, 0), (616, .iaload, 617, 0, 0), (617, .invokevirtual 86, 620, 117, 2), (620, .if_icmp .eq (Int.ofNat 85), 623, 705, 0), (623, .iconst (Int.ofNat 0), 624, 0, 0), (624, .ireturn, 625, 0, 0), (625, .aload_n 1, 626, 0, 0), (626, .aload_n 0, 627, 0, 0), (627, .iload_n 3, 628, 0, 0), (628, .iconst (Int.ofNat 1), 629, 0, 0), (629, .iadd, 630, 0, 0), (630, .iaload, 631, 0, 0), (631, .invokevirtual 87, 634, 66, 1), (634, .aload_n 2, 635, 0, 0), (635, .aload_n 0, 636, 0, 0), (636, .iload_n 3, 637, 0, 0), (637, .iconst (Int.ofNat 1), 638, 0, 0), (638, .iadd, 639, 0, 0), (639, .iaload, 640, 0, 0), (640, .invokevirtual 90, 643, 120, 1), (643, .if_icmp .eq (Int.ofNat 62), 646, 705, 0), (646, .iconst (Int.ofNat 0), 647, 0, 0), (647, .ireturn, 648, 0, 0), (648, .aload_n 1, 649, 0, 0), (649, .aload_n 0, 650, 0, 0), (650, .iload_n 3, 651, 0, 0), (651, .iconst (Int.ofNat 1), 652, 0, 0), (652, .iadd, 653, 0, 0), (653, .iaload, 654, 0, 0), (654, .aload_n 0, 655, 0, 0), (655, .iload_n 3, 656, 0, 0), (656, .iconst (Int.ofNat 2), 657, 0, 0), (657, .iadd, 658, 0, 0), (658, .iaload, 659, 0, 0), (659, .invokevirtual 91, 662, 67, 2), (662, .aload_n 2, 663, 0, 0), (663, .aload_n 0, 664, 0, 0), (664, .iload_n 3, 665, 0, 0), (665, .iconst (Int.ofNat 1), 666, 0, 0), (666, .iadd, 667, 0, 0), (667, .iaload, 668, 0, 0), (668, .aload_n 0, 669, 0, 0), (669, .iload_n 3, 670, 0, 0), (670, .iconst (Int.ofNat 2), 671, 0, 0), (671, .iadd, 672, 0, 0), (672, .iaload, 673, 0, 0), (673, .invokevirtual 94, 676, 121, 2), (676, .if_icmp .eq (Int.ofNat 29), 679, 705, 0), (679, .iconst (Int.ofNat 0), 680, 0, 0), (680, .ireturn, 681, 0, 0), (681, .aload_n 1, 682, 0, 0), (682, .aload_n 0, 683, 0, 0), (683, .iload_n 3, 684, 0, 0), (684, .iconst (Int.ofNat 1), 685, 0, 0), (685, .iadd, 686, 0, 0), (686, .iaload, 687, 0, 0), (687, .invokevirtual 95, 690, 68, 1), (690, .aload_n 2, 691, 0, 0), (691, .aload_n 0, 692, 0, 0), (692, .iload_n 3, 693, 0, 0), (693, .iconst (Int.ofNat 1), 694, 0, 0), (694, .iadd, 695, 0, 0), (695, .iaload, 696, 0, 0), (696, .invokevirtual 99, 699, 122, 1), (699, .lcmp, 700, 0, 0), (700, .ifCond .eq (Int.ofNat 5), 703, 705, 0), (703, .iconst (Int.ofNat 0), 704, 0, 0), (704, .ireturn, 705, 0, 0), (705, .iinc 3 (Int.ofNat 5), 708, 0, 0), (708, .goto (Int.negSucc 679), 711, 28, 0), (711, .iconst (Int.ofNat 1), 712, 0, 0), (712, .ireturn, 713, 0, 0)])
def xm (k : Nat) : xM := (bif Nat.ble k 61 then (bif Nat.ble k 30 then (bif Nat.ble k 14 then (bif Nat.ble k 6 then (bif Nat.ble k 2 then (bif Nat.ble k 0 then xm_0 else (bif Nat.ble k 1 then xm_1 else xm_2)) else (bif Nat.ble k 4 then (bif Nat.ble k 3 then xm_3 else xm_4) else (bif Nat.ble k 5 then xm_5 else xm_6))) else (bif Nat.ble k 10 then (bif Nat.ble k 8 then (bif Nat.ble k 7 then xm_7 else xm_8) else (bif Nat.ble k 9 then xm_9 else xm_10)) else (bif Nat.ble k 12 then (bif Nat.ble k 11 then xm_11 else xm_12) else (bif Nat.ble k 13 then xm_13 else xm_14)))) else (bif Nat.ble k 22 then (bif Nat.ble k 18 then (bif Nat.ble k 16 then (bif Nat.ble k 15 then xm_15 else xm_16) else (bif Nat.ble k 17 then xm_17 else xm_18)) else (bif Nat.ble k 20 then (bif Nat.ble k 19 then xm_19 else xm_20) else (bif Nat.ble k 21 then xm_21 else xm_22))) else (bif Nat.ble k 26 then (bif Nat.ble k 24 then (bif Nat.ble k 23 then xm_23 else xm_24) else (bif Nat.ble k 25 then xm_25 else xm_26)) else (bif Nat.ble k 28 then (bif Nat.ble k 27 then xm_27 else xm_28) else (bif Nat.ble k 29 then xm_29 else xm_30))))) else (bif Nat.ble k 45 then (bif Nat.ble k 37 then (bif Nat.ble k 33 then (bif Nat.ble k 31 then xm_31 else (bif Nat.ble k 32 then xm_32 else xm_33)) else (bif Nat.ble k 35 then (bif Nat.ble k 34 then xm_34 else xm_35) else (bif Nat.ble k 36 then xm_36 else xm_37))) else (bif Nat.ble k 41 then (bif Nat.ble k 39 then (bif Nat.ble k 38 then xm_38 else xm_39) else (bif Nat.ble k 40 then xm_40 else xm_41)) else (bif Nat.ble k 43 then (bif Nat.ble k 42 then xm_42 else xm_43) else (bif Nat.ble k 44 then xm_44 else xm_45)))) else (bif Nat.ble k 53 then (bif Nat.ble k 49 then (bif Nat.ble k 47 then (bif Nat.ble k 46 then xm_46 else xm_47) else (bif Nat.ble k 48 then xm_48 else xm_49)) else (bif Nat.ble k 51 then (bif Nat.ble k 50 then xm_50 else xm_51) else (bif Nat.ble k 52 then xm_52 else xm_53))) else (bif Nat.ble k 57 then (bif Nat.ble k 55 then (bif Nat.ble k 54 then xm_54 else xm_55) else (bif Nat.ble k 56 then xm_56 else xm_57)) else (bif Nat.ble k 59 then (bif Nat.ble k 58 then xm_58 else xm_59) else (bif Nat.ble k 60 then xm_60 else xm_61)))))) else (bif Nat.ble k 92 then (bif Nat.ble k 76 then (bif Nat.ble k 68 then (bif Nat.ble k 64 then (bif Nat.ble k 62 then xm_62 else (bif Nat.ble k 63 then xm_63 else xm_64)) else (bif Nat.ble k 66 then (bif Nat.ble k 65 then xm_65 else xm_66) else (bif Nat.ble k 67 then xm_67 else xm_68))) else (bif Nat.ble k 72 then (bif Nat.ble k 70 then (bif Nat.ble k 69 then xm_69 else xm_70) else (bif Nat.ble k 71 then xm_71 else xm_72)) else (bif Nat.ble k 74 then (bif Nat.ble k 73 then xm_73 else xm_74) else (bif Nat.ble k 75 then xm_75 else xm_76)))) else (bif Nat.ble k 84 then (bif Nat.ble k 80 then (bif Nat.ble k 78 then (bif Nat.ble k 77 then xm_77 else xm_78) else (bif Nat.ble k 79 then xm_79 else xm_80)) else (bif Nat.ble k 82 then (bif Nat.ble k 81 then xm_81 else xm_82) else (bif Nat.ble k 83 then xm_83 else xm_84))) else (bif Nat.ble k 88 then (bif Nat.ble k 86 then (bif Nat.ble k 85 then xm_85 else xm_86) else (bif Nat.ble k 87 then xm_87 else xm_88)) else (bif Nat.ble k 90 then (bif Nat.ble k 89 then xm_89 else xm_90) else (bif Nat.ble k 91 then xm_91 else xm_92))))) else (bif Nat.ble k 108 then (bif Nat.ble k 100 then (bif Nat.ble k 96 then (bif Nat.ble k 94 then (bif Nat.ble k 93 then xm_93 else xm_94) else (bif Nat.ble k 95 then xm_95 else xm_96)) else (bif Nat.ble k 98 then (bif Nat.ble k 97 then xm_97 else xm_98) else (bif Nat.ble k 99 then xm_99 else xm_100))) else (bif Nat.ble k 104 then (bif Nat.ble k 102 then (bif Nat.ble k 101 then xm_101 else xm_102) else (bif Nat.ble k 103 then xm_103 else xm_104)) else (bif Nat.ble k 106 then (bif Nat.ble k 105 then xm_105 else xm_106) else (bif Nat.ble k 107 then xm_107 else xm_108)))) else (bif Nat.ble k 116 then (bif Nat.ble k 112 then (bif Nat.ble k 110 then (bif Nat.ble k 109 then xm_109 else xm_110) else (bif Nat.ble k 111 then xm_111 else xm_112)) else (bif Nat.ble k 114 then (bif Nat.ble k 113 then xm_113 else xm_114) else (bif Nat.ble k 115 then xm_115 else xm_116))) else (bif Nat.ble k 120 then (bif Nat.ble k 118 then (bif Nat.ble k 117 then xm_117 else xm_118) else (bif Nat.ble k 119 then xm_119 else xm_120)) else (bif Nat.ble k 122 then (bif Nat.ble k 121 then xm_121 else xm_122) else (bif Nat.ble k 123 then xm_123 else xm_124)))))))
def xm_y (k : Nat) : MethodName := (xm k).1
def xm_b (k : Nat) : ByteArray := (xm k).2.1
def xm_L (k : Nat) : Nat := (xm k).2.2.1
def xm_r (k : Nat) : Option FieldType := (xm k).2.2.2.1
def xm_R (k : Nat) : Room := (xm k).2.2.2.2.1
def xm_a (k : Nat) : Bool := (xm k).2.2.2.2.2.1.1
def xm_n (k : Nat) : Bool := (xm k).2.2.2.2.2.1.2
def xm_c (k : Nat) : Nat := (xm k).2.2.2.2.2.2.1
def xm_o (k : Nat) : String := xc_n (xm_c k)
def x_find (pc : Nat) : List (Nat × xQ) → Option xQ
  | [] => none
  | q :: r => bif Nat.beq q.1 pc then some q.2 else x_find pc r
def xm_i (k pc : Nat) : Option xQ := x_find pc (xm k).2.2.2.2.2.2.2
def xG : List Cond := lw_tbl.filter goodWord
def xm_w (k : Nat) : List Cond := .code (xm_y k) (xm_b k) (xm_L k) (xm_r k) :: xG
def x_fl : List (Nat × Nat × Nat × Nat) := [(0, 9, 0, 0), (0, 15, 0, 1), (0, 19, 0, 2), (0, 23, 0, 3), (0, 31, 0, 4), (1, 9, 1, 0), (1, 15, 1, 1), (2, 9, 2, 0), (2, 15, 2, 1), (2, 18, 2, 2), (2, 22, 2, 3), (2, 25, 2, 4), (3, 9, 3, 0), (3, 15, 3, 1), (3, 18, 3, 2), (3, 26, 3, 3), (4, 23, 4, 0), (4, 30, 4, 4), (4, 34, 4, 5), (4, 40, 4, 2), (4, 49, 4, 1), (4, 53, 4, 3), (4, 61, 4, 6), (4, 152, 4, 7), (5, 7, 5, 5), (5, 13, 5, 6), (5, 17, 5, 7), (5, 20, 5, 8), (5, 23, 5, 9), (5, 26, 5, 10), (5, 29, 5, 11), (5, 32, 5, 12), (5, 35, 5, 13), (5, 38, 5, 15), (5, 41, 5, 17), (5, 44, 5, 18), (5, 47, 5, 1), (5, 58, 5, 16), (5, 68, 5, 14), (5, 74, 5, 3), (5, 90, 5, 4), (5, 51, 5, 0), (5, 109, 5, 2)]
def x_lv : List (Nat × Nat × Nat) := [(0, 27, 1), (0, 35, 2), (0, 45, 5), (0, 48, 6), (0, 52, 32), (0, 61, 8), (0, 64, 3), (0, 67, 46), (0, 70, 40), (0, 74, 18), (0, 77, 20), (0, 80, 22), (0, 84, 21), (0, 87, 23), (0, 90, 19), (0, 93, 16), (1, 19, 32), (2, 28, 31), (2, 32, 38), (3, 22, 45), (3, 29, 33), (3, 34, 36), (3, 38, 37), (3, 41, 48), (4, 69, 77), (4, 72, 39), (4, 76, 75), (4, 79, 38), (4, 83, 36), (4, 86, 37), (4, 89, 32), (4, 96, 74), (4, 99, 34), (4, 102, 35), (4, 106, 28), (4, 110, 78), (4, 113, 43), (4, 116, 14), (4, 119, 16), (4, 122, 76), (4, 125, 30), (4, 128, 7), (4, 131, 1), (4, 134, 2), (4, 137, 3), (4, 140, 8), (4, 143, 9), (4, 146, 10), (4, 149, 11), (4, 155, 4), (4, 158, 12), (4, 161, 13), (4, 164, 25), (4, 165, 41), (4, 168, 80), (4, 173, 47), (4, 176, 48), (4, 179, 49), (4, 185, 44), (4, 188, 83), (4, 195, 33), (4, 198, 46), (4, 199, 17), (4, 202, 79), (4, 206, 81), (4, 209, 82), (4, 212, 15), (4, 215, 26), (4, 216, 27), (4, 222, 84), (4, 228, 45), (5, 61, 90), (5, 65, 89), (5, 71, 91), (5, 77, 92), (5, 80, 93), (5, 87, 95), (5, 93, 98), (5, 96, 97), (5, 99, 96), (5, 102, 99), (5, 112, 100), (5, 115, 94), (5, 118, 102), (5, 122, 108), (5, 125, 119), (5, 129, 118), (6, 21, 51), (6, 25, 101), (6, 26, 52), (6, 30, 103), (6, 31, 53), (6, 35, 104), (6, 36, 54), (6, 39, 105), (6, 40, 55), (6, 43, 106), (6, 44, 56), (6, 47, 107), (6, 48, 57), (6, 51, 109), (6, 52, 58), (6, 56, 110), (6, 57, 59), (6, 61, 111), (6, 62, 60), (6, 65, 112), (6, 66, 61), (6, 70, 113), (6, 71, 62), (6, 74, 114), (6, 75, 63), (6, 78, 115), (6, 79, 64), (6, 82, 116), (6, 83, 65), (6, 86, 117), (6, 87, 66), (6, 90, 120), (6, 91, 67), (6, 94, 121), (6, 95, 68), (6, 99, 122)]
def x_ls : List (Nat × Nat × Nat) := [(4, 57, 73), (4, 65, 72), (4, 92, 69), (4, 192, 70), (5, 54, 86), (5, 83, 88), (5, 105, 87), (6, 9, 123)]
def x_ln : List (Nat × Nat × Nat) := [(0, 39, 71), (0, 42, 70), (0, 57, 69), (2, 36, 69)]
def x_li : List (Nat × Nat × Nat) := [(4, 20, 29), (4, 29, 42), (4, 39, 24), (4, 46, 0), (6, 15, 50), (6, 20, 85)]
def x_nw : List (Nat × Nat × Nat) := [(4, 18, 2), (4, 27, 3), (4, 37, 1), (4, 44, 0), (6, 7, 4), (6, 18, 5)]
def x_cl : List (Nat × Nat × Nat) := [(4, 171, 1000002), (4, 183, 7), (4, 220, 31), (4, 226, 3), (4, 231, 2), (5, 133, 1000002), (5, 135, 7), (5, 137, 31), (5, 139, 3), (5, 141, 2)]
def x_nest : List Cond := [.methodLinkNest (xc_n 0) 39 (xm_y 71) "LazyBlocks", .methodLinkNest (xc_n 0) 42 (xm_y 70) "LazyBlocks", .methodLinkNest (xc_n 0) 57 (xm_y 69) "LazyBlocks", .methodLinkNest (xc_n 2) 36 (xm_y 69) "LazyBlocks"]
-- numbers of the methods: 0 X0_init, 1 X0_has, 2 X0_classOf, 3 X0_isUnswept, 4 X0_sweepsDone, 5 X0_cellsIn, 6 X0_cellOf, 7 X0_cellAround, 8 X0_objectsIn, 9 X0_emptyCellsIn, 10 X0_objects, 11 X0_usedWords, 12 X0_freeBlocks, 13 X0_unsweptBlocks, 14 X0_firstUnswept, 15 X0_unsweepAll, 16 X0_clean, 17 X0_findCell, 18 X0_emptyCell, 19 X0_emptyCellOf, 20 X0_cleanOwn, 21 X0_cleanOthers, 22 X0_firstFree, 23 X0_open, 24 X1_init, 25 X1_size, 26 X1_get, 27 X1_addByName, 28 X1_takeFirst, 29 X2_init, 30 X2_words, 31 X2_isWord, 32 X2_nameAt, 33 X2_fieldsOf, 34 X2_isWatched, 35 X2_setWatched, 36 X2_kindOf, 37 X2_valueOf, 38 X2_write, 39 X2_place, 40 X2_remove, 41 X2_watchedObjects, 42 X3_init, 43 X3_size, 44 X3_get, 45 X3_rankOf, 46 X3_has, 47 X3_clear, 48 X3_come, 49 X3_spread, 50 X4_init, 51 X4_make, 52 X4_set, 53 X4_link, 54 X4_refers, 55 X4_number, 56 X4_load, 57 X4_copy, 58 X4_drop, 59 X4_watch, 60 X4_next, 61 X4_mark, 62 X4_sweep, 63 X4_object, 64 X4_at, 65 X4_block, 66 X4_count, 67 X4_same, 68 X4_sum, 69 X4_oneIf, 70 X4_cellWords, 71 X4_cellsPerBlock, 72 X4_classFor, 73 X4_isRoot, 74 X4_rootFault, 75 X4_fieldFault, 76 X4_tell, 77 X4_cellFor, 78 X4_markAll, 79 X4_comeToHeld, 80 X4_heldObjects, 81 X4_cutWeakFields, 82 X4_queueWatched, 83 X4_addObject, 84 X4_fieldTerm, 85 X5_init, 86 X5_in, 87 X5_isRoot, 88 X5_cellOf, 89 X5_begin, 90 X5_meet, 91 X5_follow, 92 X5_reach, 93 X5_loosen, 94 X5_markNow, 95 X5_objectsIn, 96 X5_emptyIn, 97 X5_sweepBlock, 98 X5_emptyCell, 99 X5_takeFree, 100 X5_room, 101 X5_make, 102 X5_wrong, 103 X5_set, 104 X5_link, 105 X5_refers, 106 X5_number, 107 X5_load, 108 X5_nameOf, 109 X5_copy, 110 X5_drop, 111 X5_watch, 112 X5_next, 113 X5_mark, 114 X5_sweep, 115 X5_object, 116 X5_at, 117 X5_block, 118 X5_blocksThat, 119 X5_objects, 120 X5_count, 121 X5_same, 122 X5_sum, 123 L_cell, 124 L_law
abbrev kX0_init : Nat := 0
abbrev kX0_has : Nat := 1
abbrev kX0_classOf : Nat := 2
abbrev kX0_isUnswept : Nat := 3
abbrev kX0_sweepsDone : Nat := 4
abbrev kX0_cellsIn : Nat := 5
abbrev kX0_cellOf : Nat := 6
abbrev kX0_cellAround : Nat := 7
abbrev kX0_objectsIn : Nat := 8
abbrev kX0_emptyCellsIn : Nat := 9
abbrev kX0_objects : Nat := 10
abbrev kX0_usedWords : Nat := 11
abbrev kX0_freeBlocks : Nat := 12
abbrev kX0_unsweptBlocks : Nat := 13
abbrev kX0_firstUnswept : Nat := 14
abbrev kX0_unsweepAll : Nat := 15
abbrev kX0_clean : Nat := 16
abbrev kX0_findCell : Nat := 17
abbrev kX0_emptyCell : Nat := 18
abbrev kX0_emptyCellOf : Nat := 19
abbrev kX0_cleanOwn : Nat := 20
abbrev kX0_cleanOthers : Nat := 21
abbrev kX0_firstFree : Nat := 22
abbrev kX0_open : Nat := 23
abbrev kX1_init : Nat := 24
abbrev kX1_size : Nat := 25
abbrev kX1_get : Nat := 26
abbrev kX1_addByName : Nat := 27
abbrev kX1_takeFirst : Nat := 28
abbrev kX2_init : Nat := 29
abbrev kX2_words : Nat := 30
abbrev kX2_isWord : Nat := 31
abbrev kX2_nameAt : Nat := 32
abbrev kX2_fieldsOf : Nat := 33
abbrev kX2_isWatched : Nat := 34
abbrev kX2_setWatched : Nat := 35
abbrev kX2_kindOf : Nat := 36
abbrev kX2_valueOf : Nat := 37
abbrev kX2_write : Nat := 38
abbrev kX2_place : Nat := 39
abbrev kX2_remove : Nat := 40
abbrev kX2_watchedObjects : Nat := 41
abbrev kX3_init : Nat := 42
abbrev kX3_size : Nat := 43
abbrev kX3_get : Nat := 44
abbrev kX3_rankOf : Nat := 45
abbrev kX3_has : Nat := 46
abbrev kX3_clear : Nat := 47
abbrev kX3_come : Nat := 48
abbrev kX3_spread : Nat := 49
abbrev kX4_init : Nat := 50
abbrev kX4_make : Nat := 51
abbrev kX4_set : Nat := 52
abbrev kX4_link : Nat := 53
abbrev kX4_refers : Nat := 54
abbrev kX4_number : Nat := 55
abbrev kX4_load : Nat := 56
abbrev kX4_copy : Nat := 57
abbrev kX4_drop : Nat := 58
abbrev kX4_watch : Nat := 59
abbrev kX4_next : Nat := 60
abbrev kX4_mark : Nat := 61
abbrev kX4_sweep : Nat := 62
abbrev kX4_object : Nat := 63
abbrev kX4_at : Nat := 64
abbrev kX4_block : Nat := 65
abbrev kX4_count : Nat := 66
abbrev kX4_same : Nat := 67
abbrev kX4_sum : Nat := 68
abbrev kX4_oneIf : Nat := 69
abbrev kX4_cellWords : Nat := 70
abbrev kX4_cellsPerBlock : Nat := 71
abbrev kX4_classFor : Nat := 72
abbrev kX4_isRoot : Nat := 73
abbrev kX4_rootFault : Nat := 74
abbrev kX4_fieldFault : Nat := 75
abbrev kX4_tell : Nat := 76
abbrev kX4_cellFor : Nat := 77
abbrev kX4_markAll : Nat := 78
abbrev kX4_comeToHeld : Nat := 79
abbrev kX4_heldObjects : Nat := 80
abbrev kX4_cutWeakFields : Nat := 81
abbrev kX4_queueWatched : Nat := 82
abbrev kX4_addObject : Nat := 83
abbrev kX4_fieldTerm : Nat := 84
abbrev kX5_init : Nat := 85
abbrev kX5_in : Nat := 86
abbrev kX5_isRoot : Nat := 87
abbrev kX5_cellOf : Nat := 88
abbrev kX5_begin : Nat := 89
abbrev kX5_meet : Nat := 90
abbrev kX5_follow : Nat := 91
abbrev kX5_reach : Nat := 92
abbrev kX5_loosen : Nat := 93
abbrev kX5_markNow : Nat := 94
abbrev kX5_objectsIn : Nat := 95
abbrev kX5_emptyIn : Nat := 96
abbrev kX5_sweepBlock : Nat := 97
abbrev kX5_emptyCell : Nat := 98
abbrev kX5_takeFree : Nat := 99
abbrev kX5_room : Nat := 100
abbrev kX5_make : Nat := 101
abbrev kX5_wrong : Nat := 102
abbrev kX5_set : Nat := 103
abbrev kX5_link : Nat := 104
abbrev kX5_refers : Nat := 105
abbrev kX5_number : Nat := 106
abbrev kX5_load : Nat := 107
abbrev kX5_nameOf : Nat := 108
abbrev kX5_copy : Nat := 109
abbrev kX5_drop : Nat := 110
abbrev kX5_watch : Nat := 111
abbrev kX5_next : Nat := 112
abbrev kX5_mark : Nat := 113
abbrev kX5_sweep : Nat := 114
abbrev kX5_object : Nat := 115
abbrev kX5_at : Nat := 116
abbrev kX5_block : Nat := 117
abbrev kX5_blocksThat : Nat := 118
abbrev kX5_objects : Nat := 119
abbrev kX5_count : Nat := 120
abbrev kX5_same : Nat := 121
abbrev kX5_sum : Nat := 122
abbrev kL_cell : Nat := 123
abbrev kL_law : Nat := 124
end
section
theorem x_inG {w : Cond} (h : w ∈ lw_tbl) (hg : goodWord w = true) : w ∈ xG := List.mem_filter.mpr ⟨h, hg⟩
theorem x_outG {w : Cond} (h : w ∈ xG) : w ∈ lw_tbl := (List.mem_filter.mp h).1
theorem x_fl_0 : xcl[0]? = some (xc_n 0, xc_T 0, xc_N 0) ∧ 0 < xc_N 0 ∧ Cond.fieldLink (xc_n 0) 9 (xc_T 0 0).1 (xc_T 0 0).2.1 (xc_T 0 0).2.2.1 ∈ xG := ⟨rfl, by decide, x_inG (List.mem_of_getElem? (i := 120) (by decide +kernel)) rfl⟩
theorem x_fl_1 : xcl[0]? = some (xc_n 0, xc_T 0, xc_N 0) ∧ 1 < xc_N 0 ∧ Cond.fieldLink (xc_n 0) 15 (xc_T 0 1).1 (xc_T 0 1).2.1 (xc_T 0 1).2.2.1 ∈ xG := ⟨rfl, by decide, x_inG (List.mem_of_getElem? (i := 121) (by decide +kernel)) rfl⟩
theorem x_fl_2 : xcl[0]? = some (xc_n 0, xc_T 0, xc_N 0) ∧ 2 < xc_N 0 ∧ Cond.fieldLink (xc_n 0) 19 (xc_T 0 2).1 (xc_T 0 2).2.1 (xc_T 0 2).2.2.1 ∈ xG := ⟨rfl, by decide, x_inG (List.mem_of_getElem? (i := 122) (by decide +kernel)) rfl⟩
theorem x_fl_3 : xcl[0]? = some (xc_n 0, xc_T 0, xc_N 0) ∧ 3 < xc_N 0 ∧ Cond.fieldLink (xc_n 0) 23 (xc_T 0 3).1 (xc_T 0 3).2.1 (xc_T 0 3).2.2.1 ∈ xG := ⟨rfl, by decide, x_inG (List.mem_of_getElem? (i := 123) (by decide +kernel)) rfl⟩
theorem x_fl_4 : xcl[0]? = some (xc_n 0, xc_T 0, xc_N 0) ∧ 4 < xc_N 0 ∧ Cond.fieldLink (xc_n 0) 31 (xc_T 0 4).1 (xc_T 0 4).2.1 (xc_T 0 4).2.2.1 ∈ xG := ⟨rfl, by decide, x_inG (List.mem_of_getElem? (i := 124) (by decide +kernel)) rfl⟩
theorem x_fl_5 : xcl[1]? = some (xc_n 1, xc_T 1, xc_N 1) ∧ 0 < xc_N 1 ∧ Cond.fieldLink (xc_n 1) 9 (xc_T 1 0).1 (xc_T 1 0).2.1 (xc_T 1 0).2.2.1 ∈ xG := ⟨rfl, by decide, x_inG (List.mem_of_getElem? (i := 107) (by decide +kernel)) rfl⟩
theorem x_fl_6 : xcl[1]? = some (xc_n 1, xc_T 1, xc_N 1) ∧ 1 < xc_N 1 ∧ Cond.fieldLink (xc_n 1) 15 (xc_T 1 1).1 (xc_T 1 1).2.1 (xc_T 1 1).2.2.1 ∈ xG := ⟨rfl, by decide, x_inG (List.mem_of_getElem? (i := 108) (by decide +kernel)) rfl⟩
theorem x_fl_7 : xcl[2]? = some (xc_n 2, xc_T 2, xc_N 2) ∧ 0 < xc_N 2 ∧ Cond.fieldLink (xc_n 2) 9 (xc_T 2 0).1 (xc_T 2 0).2.1 (xc_T 2 0).2.2.1 ∈ xG := ⟨rfl, by decide, x_inG (List.mem_of_getElem? (i := 64) (by decide +kernel)) rfl⟩
theorem x_fl_8 : xcl[2]? = some (xc_n 2, xc_T 2, xc_N 2) ∧ 1 < xc_N 2 ∧ Cond.fieldLink (xc_n 2) 15 (xc_T 2 1).1 (xc_T 2 1).2.1 (xc_T 2 1).2.2.1 ∈ xG := ⟨rfl, by decide, x_inG (List.mem_of_getElem? (i := 65) (by decide +kernel)) rfl⟩
theorem x_fl_9 : xcl[2]? = some (xc_n 2, xc_T 2, xc_N 2) ∧ 2 < xc_N 2 ∧ Cond.fieldLink (xc_n 2) 18 (xc_T 2 2).1 (xc_T 2 2).2.1 (xc_T 2 2).2.2.1 ∈ xG := ⟨rfl, by decide, x_inG (List.mem_of_getElem? (i := 66) (by decide +kernel)) rfl⟩
theorem x_fl_10 : xcl[2]? = some (xc_n 2, xc_T 2, xc_N 2) ∧ 3 < xc_N 2 ∧ Cond.fieldLink (xc_n 2) 22 (xc_T 2 3).1 (xc_T 2 3).2.1 (xc_T 2 3).2.2.1 ∈ xG := ⟨rfl, by decide, x_inG (List.mem_of_getElem? (i := 67) (by decide +kernel)) rfl⟩
theorem x_fl_11 : xcl[2]? = some (xc_n 2, xc_T 2, xc_N 2) ∧ 4 < xc_N 2 ∧ Cond.fieldLink (xc_n 2) 25 (xc_T 2 4).1 (xc_T 2 4).2.1 (xc_T 2 4).2.2.1 ∈ xG := ⟨rfl, by decide, x_inG (List.mem_of_getElem? (i := 68) (by decide +kernel)) rfl⟩
theorem x_fl_12 : xcl[3]? = some (xc_n 3, xc_T 3, xc_N 3) ∧ 0 < xc_N 3 ∧ Cond.fieldLink (xc_n 3) 9 (xc_T 3 0).1 (xc_T 3 0).2.1 (xc_T 3 0).2.2.1 ∈ xG := ⟨rfl, by decide, x_inG (List.mem_of_getElem? (i := 88) (by decide +kernel)) rfl⟩
theorem x_fl_13 : xcl[3]? = some (xc_n 3, xc_T 3, xc_N 3) ∧ 1 < xc_N 3 ∧ Cond.fieldLink (xc_n 3) 15 (xc_T 3 1).1 (xc_T 3 1).2.1 (xc_T 3 1).2.2.1 ∈ xG := ⟨rfl, by decide, x_inG (List.mem_of_getElem? (i := 89) (by decide +kernel)) rfl⟩
theorem x_fl_14 : xcl[3]? = some (xc_n 3, xc_T 3, xc_N 3) ∧ 2 < xc_N 3 ∧ Cond.fieldLink (xc_n 3) 18 (xc_T 3 2).1 (xc_T 3 2).2.1 (xc_T 3 2).2.2.1 ∈ xG := ⟨rfl, by decide, x_inG (List.mem_of_getElem? (i := 90) (by decide +kernel)) rfl⟩
theorem x_fl_15 : xcl[3]? = some (xc_n 3, xc_T 3, xc_N 3) ∧ 3 < xc_N 3 ∧ Cond.fieldLink (xc_n 3) 26 (xc_T 3 3).1 (xc_T 3 3).2.1 (xc_T 3 3).2.2.1 ∈ xG := ⟨rfl, by decide, x_inG (List.mem_of_getElem? (i := 91) (by decide +kernel)) rfl⟩
theorem x_fl_16 : xcl[4]? = some (xc_n 4, xc_T 4, xc_N 4) ∧ 0 < xc_N 4 ∧ Cond.fieldLink (xc_n 4) 23 (xc_T 4 0).1 (xc_T 4 0).2.1 (xc_T 4 0).2.2.1 ∈ xG := ⟨rfl, by decide, x_inG (List.mem_of_getElem? (i := 136) (by decide +kernel)) rfl⟩
theorem x_fl_17 : xcl[4]? = some (xc_n 4, xc_T 4, xc_N 4) ∧ 4 < xc_N 4 ∧ Cond.fieldLink (xc_n 4) 30 (xc_T 4 4).1 (xc_T 4 4).2.1 (xc_T 4 4).2.2.1 ∈ xG := ⟨rfl, by decide, x_inG (List.mem_of_getElem? (i := 140) (by decide +kernel)) rfl⟩
theorem x_fl_18 : xcl[4]? = some (xc_n 4, xc_T 4, xc_N 4) ∧ 5 < xc_N 4 ∧ Cond.fieldLink (xc_n 4) 34 (xc_T 4 5).1 (xc_T 4 5).2.1 (xc_T 4 5).2.2.1 ∈ xG := ⟨rfl, by decide, x_inG (List.mem_of_getElem? (i := 141) (by decide +kernel)) rfl⟩
theorem x_fl_19 : xcl[4]? = some (xc_n 4, xc_T 4, xc_N 4) ∧ 2 < xc_N 4 ∧ Cond.fieldLink (xc_n 4) 40 (xc_T 4 2).1 (xc_T 4 2).2.1 (xc_T 4 2).2.2.1 ∈ xG := ⟨rfl, by decide, x_inG (List.mem_of_getElem? (i := 138) (by decide +kernel)) rfl⟩
theorem x_fl_20 : xcl[4]? = some (xc_n 4, xc_T 4, xc_N 4) ∧ 1 < xc_N 4 ∧ Cond.fieldLink (xc_n 4) 49 (xc_T 4 1).1 (xc_T 4 1).2.1 (xc_T 4 1).2.2.1 ∈ xG := ⟨rfl, by decide, x_inG (List.mem_of_getElem? (i := 137) (by decide +kernel)) rfl⟩
theorem x_fl_21 : xcl[4]? = some (xc_n 4, xc_T 4, xc_N 4) ∧ 3 < xc_N 4 ∧ Cond.fieldLink (xc_n 4) 53 (xc_T 4 3).1 (xc_T 4 3).2.1 (xc_T 4 3).2.2.1 ∈ xG := ⟨rfl, by decide, x_inG (List.mem_of_getElem? (i := 139) (by decide +kernel)) rfl⟩
theorem x_fl_22 : xcl[4]? = some (xc_n 4, xc_T 4, xc_N 4) ∧ 6 < xc_N 4 ∧ Cond.fieldLink (xc_n 4) 61 (xc_T 4 6).1 (xc_T 4 6).2.1 (xc_T 4 6).2.2.1 ∈ xG := ⟨rfl, by decide, x_inG (List.mem_of_getElem? (i := 142) (by decide +kernel)) rfl⟩
theorem x_fl_23 : xcl[4]? = some (xc_n 4, xc_T 4, xc_N 4) ∧ 7 < xc_N 4 ∧ Cond.fieldLink (xc_n 4) 152 (xc_T 4 7).1 (xc_T 4 7).2.1 (xc_T 4 7).2.2.1 ∈ xG := ⟨rfl, by decide, x_inG (List.mem_of_getElem? (i := 143) (by decide +kernel)) rfl⟩
theorem x_fl_24 : xcl[5]? = some (xc_n 5, xc_T 5, xc_N 5) ∧ 5 < xc_N 5 ∧ Cond.fieldLink (xc_n 5) 7 (xc_T 5 5).1 (xc_T 5 5).2.1 (xc_T 5 5).2.2.1 ∈ xG := ⟨rfl, by decide, x_inG (List.mem_of_getElem? (i := 512) (by decide +kernel)) rfl⟩
theorem x_fl_25 : xcl[5]? = some (xc_n 5, xc_T 5, xc_N 5) ∧ 6 < xc_N 5 ∧ Cond.fieldLink (xc_n 5) 13 (xc_T 5 6).1 (xc_T 5 6).2.1 (xc_T 5 6).2.2.1 ∈ xG := ⟨rfl, by decide, x_inG (List.mem_of_getElem? (i := 513) (by decide +kernel)) rfl⟩
theorem x_fl_26 : xcl[5]? = some (xc_n 5, xc_T 5, xc_N 5) ∧ 7 < xc_N 5 ∧ Cond.fieldLink (xc_n 5) 17 (xc_T 5 7).1 (xc_T 5 7).2.1 (xc_T 5 7).2.2.1 ∈ xG := ⟨rfl, by decide, x_inG (List.mem_of_getElem? (i := 514) (by decide +kernel)) rfl⟩
theorem x_fl_27 : xcl[5]? = some (xc_n 5, xc_T 5, xc_N 5) ∧ 8 < xc_N 5 ∧ Cond.fieldLink (xc_n 5) 20 (xc_T 5 8).1 (xc_T 5 8).2.1 (xc_T 5 8).2.2.1 ∈ xG := ⟨rfl, by decide, x_inG (List.mem_of_getElem? (i := 515) (by decide +kernel)) rfl⟩
theorem x_fl_28 : xcl[5]? = some (xc_n 5, xc_T 5, xc_N 5) ∧ 9 < xc_N 5 ∧ Cond.fieldLink (xc_n 5) 23 (xc_T 5 9).1 (xc_T 5 9).2.1 (xc_T 5 9).2.2.1 ∈ xG := ⟨rfl, by decide, x_inG (List.mem_of_getElem? (i := 516) (by decide +kernel)) rfl⟩
theorem x_fl_29 : xcl[5]? = some (xc_n 5, xc_T 5, xc_N 5) ∧ 10 < xc_N 5 ∧ Cond.fieldLink (xc_n 5) 26 (xc_T 5 10).1 (xc_T 5 10).2.1 (xc_T 5 10).2.2.1 ∈ xG := ⟨rfl, by decide, x_inG (List.mem_of_getElem? (i := 517) (by decide +kernel)) rfl⟩
theorem x_fl_30 : xcl[5]? = some (xc_n 5, xc_T 5, xc_N 5) ∧ 11 < xc_N 5 ∧ Cond.fieldLink (xc_n 5) 29 (xc_T 5 11).1 (xc_T 5 11).2.1 (xc_T 5 11).2.2.1 ∈ xG := ⟨rfl, by decide, x_inG (List.mem_of_getElem? (i := 518) (by decide +kernel)) rfl⟩
theorem x_fl_31 : xcl[5]? = some (xc_n 5, xc_T 5, xc_N 5) ∧ 12 < xc_N 5 ∧ Cond.fieldLink (xc_n 5) 32 (xc_T 5 12).1 (xc_T 5 12).2.1 (xc_T 5 12).2.2.1 ∈ xG := ⟨rfl, by decide, x_inG (List.mem_of_getElem? (i := 519) (by decide +kernel)) rfl⟩
theorem x_fl_32 : xcl[5]? = some (xc_n 5, xc_T 5, xc_N 5) ∧ 13 < xc_N 5 ∧ Cond.fieldLink (xc_n 5) 35 (xc_T 5 13).1 (xc_T 5 13).2.1 (xc_T 5 13).2.2.1 ∈ xG := ⟨rfl, by decide, x_inG (List.mem_of_getElem? (i := 520) (by decide +kernel)) rfl⟩
theorem x_fl_33 : xcl[5]? = some (xc_n 5, xc_T 5, xc_N 5) ∧ 15 < xc_N 5 ∧ Cond.fieldLink (xc_n 5) 38 (xc_T 5 15).1 (xc_T 5 15).2.1 (xc_T 5 15).2.2.1 ∈ xG := ⟨rfl, by decide, x_inG (List.mem_of_getElem? (i := 522) (by decide +kernel)) rfl⟩
theorem x_fl_34 : xcl[5]? = some (xc_n 5, xc_T 5, xc_N 5) ∧ 17 < xc_N 5 ∧ Cond.fieldLink (xc_n 5) 41 (xc_T 5 17).1 (xc_T 5 17).2.1 (xc_T 5 17).2.2.1 ∈ xG := ⟨rfl, by decide, x_inG (List.mem_of_getElem? (i := 524) (by decide +kernel)) rfl⟩
theorem x_fl_35 : xcl[5]? = some (xc_n 5, xc_T 5, xc_N 5) ∧ 18 < xc_N 5 ∧ Cond.fieldLink (xc_n 5) 44 (xc_T 5 18).1 (xc_T 5 18).2.1 (xc_T 5 18).2.2.1 ∈ xG := ⟨rfl, by decide, x_inG (List.mem_of_getElem? (i := 525) (by decide +kernel)) rfl⟩
theorem x_fl_36 : xcl[5]? = some (xc_n 5, xc_T 5, xc_N 5) ∧ 1 < xc_N 5 ∧ Cond.fieldLink (xc_n 5) 47 (xc_T 5 1).1 (xc_T 5 1).2.1 (xc_T 5 1).2.2.1 ∈ xG := ⟨rfl, by decide, x_inG (List.mem_of_getElem? (i := 508) (by decide +kernel)) rfl⟩
theorem x_fl_37 : xcl[5]? = some (xc_n 5, xc_T 5, xc_N 5) ∧ 16 < xc_N 5 ∧ Cond.fieldLink (xc_n 5) 58 (xc_T 5 16).1 (xc_T 5 16).2.1 (xc_T 5 16).2.2.1 ∈ xG := ⟨rfl, by decide, x_inG (List.mem_of_getElem? (i := 523) (by decide +kernel)) rfl⟩
theorem x_fl_38 : xcl[5]? = some (xc_n 5, xc_T 5, xc_N 5) ∧ 14 < xc_N 5 ∧ Cond.fieldLink (xc_n 5) 68 (xc_T 5 14).1 (xc_T 5 14).2.1 (xc_T 5 14).2.2.1 ∈ xG := ⟨rfl, by decide, x_inG (List.mem_of_getElem? (i := 521) (by decide +kernel)) rfl⟩
theorem x_fl_39 : xcl[5]? = some (xc_n 5, xc_T 5, xc_N 5) ∧ 3 < xc_N 5 ∧ Cond.fieldLink (xc_n 5) 74 (xc_T 5 3).1 (xc_T 5 3).2.1 (xc_T 5 3).2.2.1 ∈ xG := ⟨rfl, by decide, x_inG (List.mem_of_getElem? (i := 510) (by decide +kernel)) rfl⟩
theorem x_fl_40 : xcl[5]? = some (xc_n 5, xc_T 5, xc_N 5) ∧ 4 < xc_N 5 ∧ Cond.fieldLink (xc_n 5) 90 (xc_T 5 4).1 (xc_T 5 4).2.1 (xc_T 5 4).2.2.1 ∈ xG := ⟨rfl, by decide, x_inG (List.mem_of_getElem? (i := 511) (by decide +kernel)) rfl⟩
theorem x_fl_41 : xcl[5]? = some (xc_n 5, xc_T 5, xc_N 5) ∧ 0 < xc_N 5 ∧ Cond.fieldLink (xc_n 5) 51 (xc_T 5 0).1 (xc_T 5 0).2.1 (xc_T 5 0).2.2.1 ∈ xG := ⟨rfl, by decide, x_inG (List.mem_of_getElem? (i := 507) (by decide +kernel)) rfl⟩
theorem x_fl_42 : xcl[5]? = some (xc_n 5, xc_T 5, xc_N 5) ∧ 2 < xc_N 5 ∧ Cond.fieldLink (xc_n 5) 109 (xc_T 5 2).1 (xc_T 5 2).2.1 (xc_T 5 2).2.2.1 ∈ xG := ⟨rfl, by decide, x_inG (List.mem_of_getElem? (i := 509) (by decide +kernel)) rfl⟩
theorem x_fl_ok : ∀ e ∈ x_fl, xcl[e.2.2.1]? = some (xc_n e.2.2.1, xc_T e.2.2.1, xc_N e.2.2.1) ∧ e.2.2.2 < xc_N e.2.2.1 ∧ Cond.fieldLink (xc_n e.1) e.2.1 (xc_T e.2.2.1 e.2.2.2).1 (xc_T e.2.2.1 e.2.2.2).2.1 (xc_T e.2.2.1 e.2.2.2).2.2.1 ∈ xG := List.forall_mem_cons.mpr ⟨x_fl_0, List.forall_mem_cons.mpr ⟨x_fl_1, List.forall_mem_cons.mpr ⟨x_fl_2, List.forall_mem_cons.mpr ⟨x_fl_3, List.forall_mem_cons.mpr ⟨x_fl_4, List.forall_mem_cons.mpr ⟨x_fl_5, List.forall_mem_cons.mpr ⟨x_fl_6, List.forall_mem_cons.mpr ⟨x_fl_7, List.forall_mem_cons.mpr ⟨x_fl_8, List.forall_mem_cons.mpr ⟨x_fl_9, List.forall_mem_cons.mpr ⟨x_fl_10, List.forall_mem_cons.mpr ⟨x_fl_11, List.forall_mem_cons.mpr ⟨x_fl_12, List.forall_mem_cons.mpr ⟨x_fl_13, List.forall_mem_cons.mpr ⟨x_fl_14, List.forall_mem_cons.mpr ⟨x_fl_15, List.forall_mem_cons.mpr ⟨x_fl_16, List.forall_mem_cons.mpr ⟨x_fl_17, List.forall_mem_cons.mpr ⟨x_fl_18, List.forall_mem_cons.mpr ⟨x_fl_19, List.forall_mem_cons.mpr ⟨x_fl_20, List.forall_mem_cons.mpr ⟨x_fl_21, List.forall_mem_cons.mpr ⟨x_fl_22, List.forall_mem_cons.mpr ⟨x_fl_23, List.forall_mem_cons.mpr ⟨x_fl_24, List.forall_mem_cons.mpr ⟨x_fl_25, List.forall_mem_cons.mpr ⟨x_fl_26, List.forall_mem_cons.mpr ⟨x_fl_27, List.forall_mem_cons.mpr ⟨x_fl_28, List.forall_mem_cons.mpr ⟨x_fl_29, List.forall_mem_cons.mpr ⟨x_fl_30, List.forall_mem_cons.mpr ⟨x_fl_31, List.forall_mem_cons.mpr ⟨x_fl_32, List.forall_mem_cons.mpr ⟨x_fl_33, List.forall_mem_cons.mpr ⟨x_fl_34, List.forall_mem_cons.mpr ⟨x_fl_35, List.forall_mem_cons.mpr ⟨x_fl_36, List.forall_mem_cons.mpr ⟨x_fl_37, List.forall_mem_cons.mpr ⟨x_fl_38, List.forall_mem_cons.mpr ⟨x_fl_39, List.forall_mem_cons.mpr ⟨x_fl_40, List.forall_mem_cons.mpr ⟨x_fl_41, List.forall_mem_cons.mpr ⟨x_fl_42, fun _ h => absurd h List.not_mem_nil⟩⟩⟩⟩⟩⟩⟩⟩⟩⟩⟩⟩⟩⟩⟩⟩⟩⟩⟩⟩⟩⟩⟩⟩⟩⟩⟩⟩⟩⟩⟩⟩⟩⟩⟩⟩⟩⟩⟩⟩⟩⟩⟩
theorem x_lv_0 : Cond.methodLink (xc_n 0) 27 (xm_y 1) ∈ xG := x_inG (List.mem_of_getElem? (i := 190) (by decide +kernel)) rfl
theorem x_lv_1 : Cond.methodLink (xc_n 0) 35 (xm_y 2) ∈ xG := x_inG (List.mem_of_getElem? (i := 202) (by decide +kernel)) rfl
theorem x_lv_2 : Cond.methodLink (xc_n 0) 45 (xm_y 5) ∈ xG := x_inG (List.mem_of_getElem? (i := 198) (by decide +kernel)) rfl
theorem x_lv_3 : Cond.methodLink (xc_n 0) 48 (xm_y 6) ∈ xG := x_inG (List.mem_of_getElem? (i := 209) (by decide +kernel)) rfl
theorem x_lv_4 : Cond.methodLink (xc_n 0) 52 (xm_y 32) ∈ xG := x_inG (List.mem_of_getElem? (i := 214) (by decide +kernel)) rfl
theorem x_lv_5 : Cond.methodLink (xc_n 0) 61 (xm_y 8) ∈ xG := x_inG (List.mem_of_getElem? (i := 442) (by decide +kernel)) rfl
theorem x_lv_6 : Cond.methodLink (xc_n 0) 64 (xm_y 3) ∈ xG := x_inG (List.mem_of_getElem? (i := 186) (by decide +kernel)) rfl
theorem x_lv_7 : Cond.methodLink (xc_n 0) 67 (xm_y 46) ∈ xG := x_inG (List.mem_of_getElem? (i := 230) (by decide +kernel)) rfl
theorem x_lv_8 : Cond.methodLink (xc_n 0) 70 (xm_y 40) ∈ xG := x_inG (List.mem_of_getElem? (i := 238) (by decide +kernel)) rfl
theorem x_lv_9 : Cond.methodLink (xc_n 0) 74 (xm_y 18) ∈ xG := x_inG (List.mem_of_getElem? (i := 182) (by decide +kernel)) rfl
theorem x_lv_10 : Cond.methodLink (xc_n 0) 77 (xm_y 20) ∈ xG := x_inG (List.mem_of_getElem? (i := 222) (by decide +kernel)) rfl
theorem x_lv_11 : Cond.methodLink (xc_n 0) 80 (xm_y 22) ∈ xG := x_inG (List.mem_of_getElem? (i := 242) (by decide +kernel)) rfl
theorem x_lv_12 : Cond.methodLink (xc_n 0) 84 (xm_y 21) ∈ xG := x_inG (List.mem_of_getElem? (i := 246) (by decide +kernel)) rfl
theorem x_lv_13 : Cond.methodLink (xc_n 0) 87 (xm_y 23) ∈ xG := x_inG (List.mem_of_getElem? (i := 250) (by decide +kernel)) rfl
theorem x_lv_14 : Cond.methodLink (xc_n 0) 90 (xm_y 19) ∈ xG := x_inG (List.mem_of_getElem? (i := 194) (by decide +kernel)) rfl
theorem x_lv_15 : Cond.methodLink (xc_n 0) 93 (xm_y 16) ∈ xG := x_inG (List.mem_of_getElem? (i := 226) (by decide +kernel)) rfl
theorem x_lv_16 : Cond.methodLink (xc_n 1) 19 (xm_y 32) ∈ xG := x_inG (List.mem_of_getElem? (i := 335) (by decide +kernel)) rfl
theorem x_lv_17 : Cond.methodLink (xc_n 2) 28 (xm_y 31) ∈ xG := x_inG (List.mem_of_getElem? (i := 218) (by decide +kernel)) rfl
theorem x_lv_18 : Cond.methodLink (xc_n 2) 32 (xm_y 38) ∈ xG := x_inG (List.mem_of_getElem? (i := 344) (by decide +kernel)) rfl
theorem x_lv_19 : Cond.methodLink (xc_n 3) 22 (xm_y 45) ∈ xG := x_inG (List.mem_of_getElem? (i := 234) (by decide +kernel)) rfl
theorem x_lv_20 : Cond.methodLink (xc_n 3) 29 (xm_y 33) ∈ xG := x_inG (List.mem_of_getElem? (i := 282) (by decide +kernel)) rfl
theorem x_lv_21 : Cond.methodLink (xc_n 3) 34 (xm_y 36) ∈ xG := x_inG (List.mem_of_getElem? (i := 286) (by decide +kernel)) rfl
theorem x_lv_22 : Cond.methodLink (xc_n 3) 38 (xm_y 37) ∈ xG := x_inG (List.mem_of_getElem? (i := 290) (by decide +kernel)) rfl
theorem x_lv_23 : Cond.methodLink (xc_n 3) 41 (xm_y 48) ∈ xG := x_inG (List.mem_of_getElem? (i := 294) (by decide +kernel)) rfl
theorem x_lv_24 : Cond.methodLink (xc_n 4) 69 (xm_y 77) ∈ xG := x_inG (List.mem_of_getElem? (i := 174) (by decide +kernel)) rfl
theorem x_lv_25 : Cond.methodLink (xc_n 4) 72 (xm_y 39) ∈ xG := x_inG (List.mem_of_getElem? (i := 340) (by decide +kernel)) rfl
theorem x_lv_26 : Cond.methodLink (xc_n 4) 76 (xm_y 75) ∈ xG := x_inG (List.mem_of_getElem? (i := 349) (by decide +kernel)) rfl
theorem x_lv_27 : Cond.methodLink (xc_n 4) 79 (xm_y 38) ∈ xG := x_inG (List.mem_of_getElem? (i := 311) (by decide +kernel)) rfl
theorem x_lv_28 : Cond.methodLink (xc_n 4) 83 (xm_y 36) ∈ xG := x_inG (List.mem_of_getElem? (i := 308) (by decide +kernel)) rfl
theorem x_lv_29 : Cond.methodLink (xc_n 4) 86 (xm_y 37) ∈ xG := x_inG (List.mem_of_getElem? (i := 309) (by decide +kernel)) rfl
theorem x_lv_30 : Cond.methodLink (xc_n 4) 89 (xm_y 32) ∈ xG := x_inG (List.mem_of_getElem? (i := 373) (by decide +kernel)) rfl
theorem x_lv_31 : Cond.methodLink (xc_n 4) 96 (xm_y 74) ∈ xG := x_inG (List.mem_of_getElem? (i := 353) (by decide +kernel)) rfl
theorem x_lv_32 : Cond.methodLink (xc_n 4) 99 (xm_y 34) ∈ xG := x_inG (List.mem_of_getElem? (i := 323) (by decide +kernel)) rfl
theorem x_lv_33 : Cond.methodLink (xc_n 4) 102 (xm_y 35) ∈ xG := x_inG (List.mem_of_getElem? (i := 327) (by decide +kernel)) rfl
theorem x_lv_34 : Cond.methodLink (xc_n 4) 106 (xm_y 28) ∈ xG := x_inG (List.mem_of_getElem? (i := 393) (by decide +kernel)) rfl
theorem x_lv_35 : Cond.methodLink (xc_n 4) 110 (xm_y 78) ∈ xG := x_inG (List.mem_of_getElem? (i := 254) (by decide +kernel)) rfl
theorem x_lv_36 : Cond.methodLink (xc_n 4) 113 (xm_y 43) ∈ xG := x_inG (List.mem_of_getElem? (i := 299) (by decide +kernel)) rfl
theorem x_lv_37 : Cond.methodLink (xc_n 4) 116 (xm_y 14) ∈ xG := x_inG (List.mem_of_getElem? (i := 405) (by decide +kernel)) rfl
theorem x_lv_38 : Cond.methodLink (xc_n 4) 119 (xm_y 16) ∈ xG := x_inG (List.mem_of_getElem? (i := 409) (by decide +kernel)) rfl
theorem x_lv_39 : Cond.methodLink (xc_n 4) 122 (xm_y 76) ∈ xG := x_inG (List.mem_of_getElem? (i := 414) (by decide +kernel)) rfl
theorem x_lv_40 : Cond.methodLink (xc_n 4) 125 (xm_y 30) ∈ xG := x_inG (List.mem_of_getElem? (i := 319) (by decide +kernel)) rfl
theorem x_lv_41 : Cond.methodLink (xc_n 4) 128 (xm_y 7) ∈ xG := x_inG (List.mem_of_getElem? (i := 422) (by decide +kernel)) rfl
theorem x_lv_42 : Cond.methodLink (xc_n 4) 131 (xm_y 1) ∈ xG := x_inG (List.mem_of_getElem? (i := 430) (by decide +kernel)) rfl
theorem x_lv_43 : Cond.methodLink (xc_n 4) 134 (xm_y 2) ∈ xG := x_inG (List.mem_of_getElem? (i := 431) (by decide +kernel)) rfl
theorem x_lv_44 : Cond.methodLink (xc_n 4) 137 (xm_y 3) ∈ xG := x_inG (List.mem_of_getElem? (i := 432) (by decide +kernel)) rfl
theorem x_lv_45 : Cond.methodLink (xc_n 4) 140 (xm_y 8) ∈ xG := x_inG (List.mem_of_getElem? (i := 433) (by decide +kernel)) rfl
theorem x_lv_46 : Cond.methodLink (xc_n 4) 143 (xm_y 9) ∈ xG := x_inG (List.mem_of_getElem? (i := 438) (by decide +kernel)) rfl
theorem x_lv_47 : Cond.methodLink (xc_n 4) 146 (xm_y 10) ∈ xG := x_inG (List.mem_of_getElem? (i := 447) (by decide +kernel)) rfl
theorem x_lv_48 : Cond.methodLink (xc_n 4) 149 (xm_y 11) ∈ xG := x_inG (List.mem_of_getElem? (i := 451) (by decide +kernel)) rfl
theorem x_lv_49 : Cond.methodLink (xc_n 4) 155 (xm_y 4) ∈ xG := x_inG (List.mem_of_getElem? (i := 455) (by decide +kernel)) rfl
theorem x_lv_50 : Cond.methodLink (xc_n 4) 158 (xm_y 12) ∈ xG := x_inG (List.mem_of_getElem? (i := 459) (by decide +kernel)) rfl
theorem x_lv_51 : Cond.methodLink (xc_n 4) 161 (xm_y 13) ∈ xG := x_inG (List.mem_of_getElem? (i := 463) (by decide +kernel)) rfl
theorem x_lv_52 : Cond.methodLink (xc_n 4) 164 (xm_y 25) ∈ xG := x_inG (List.mem_of_getElem? (i := 270) (by decide +kernel)) rfl
theorem x_lv_53 : Cond.methodLink (xc_n 4) 165 (xm_y 41) ∈ xG := x_inG (List.mem_of_getElem? (i := 467) (by decide +kernel)) rfl
theorem x_lv_54 : Cond.methodLink (xc_n 4) 168 (xm_y 80) ∈ xG := x_inG (List.mem_of_getElem? (i := 472) (by decide +kernel)) rfl
theorem x_lv_55 : Cond.methodLink (xc_n 4) 173 (xm_y 47) ∈ xG := x_inG (List.mem_of_getElem? (i := 258) (by decide +kernel)) rfl
theorem x_lv_56 : Cond.methodLink (xc_n 4) 176 (xm_y 48) ∈ xG := x_inG (List.mem_of_getElem? (i := 266) (by decide +kernel)) rfl
theorem x_lv_57 : Cond.methodLink (xc_n 4) 179 (xm_y 49) ∈ xG := x_inG (List.mem_of_getElem? (i := 278) (by decide +kernel)) rfl
theorem x_lv_58 : Cond.methodLink (xc_n 4) 185 (xm_y 44) ∈ xG := x_inG (List.mem_of_getElem? (i := 303) (by decide +kernel)) rfl
theorem x_lv_59 : Cond.methodLink (xc_n 4) 188 (xm_y 83) ∈ xG := x_inG (List.mem_of_getElem? (i := 486) (by decide +kernel)) rfl
theorem x_lv_60 : Cond.methodLink (xc_n 4) 195 (xm_y 33) ∈ xG := x_inG (List.mem_of_getElem? (i := 307) (by decide +kernel)) rfl
theorem x_lv_61 : Cond.methodLink (xc_n 4) 198 (xm_y 46) ∈ xG := x_inG (List.mem_of_getElem? (i := 310) (by decide +kernel)) rfl
theorem x_lv_62 : Cond.methodLink (xc_n 4) 199 (xm_y 17) ∈ xG := x_inG (List.mem_of_getElem? (i := 178) (by decide +kernel)) rfl
theorem x_lv_63 : Cond.methodLink (xc_n 4) 202 (xm_y 79) ∈ xG := x_inG (List.mem_of_getElem? (i := 262) (by decide +kernel)) rfl
theorem x_lv_64 : Cond.methodLink (xc_n 4) 206 (xm_y 81) ∈ xG := x_inG (List.mem_of_getElem? (i := 295) (by decide +kernel)) rfl
theorem x_lv_65 : Cond.methodLink (xc_n 4) 209 (xm_y 82) ∈ xG := x_inG (List.mem_of_getElem? (i := 315) (by decide +kernel)) rfl
theorem x_lv_66 : Cond.methodLink (xc_n 4) 212 (xm_y 15) ∈ xG := x_inG (List.mem_of_getElem? (i := 336) (by decide +kernel)) rfl
theorem x_lv_67 : Cond.methodLink (xc_n 4) 215 (xm_y 26) ∈ xG := x_inG (List.mem_of_getElem? (i := 274) (by decide +kernel)) rfl
theorem x_lv_68 : Cond.methodLink (xc_n 4) 216 (xm_y 27) ∈ xG := x_inG (List.mem_of_getElem? (i := 331) (by decide +kernel)) rfl
theorem x_lv_69 : Cond.methodLink (xc_n 4) 222 (xm_y 84) ∈ xG := x_inG (List.mem_of_getElem? (i := 491) (by decide +kernel)) rfl
theorem x_lv_70 : Cond.methodLink (xc_n 4) 228 (xm_y 45) ∈ xG := x_inG (List.mem_of_getElem? (i := 496) (by decide +kernel)) rfl
theorem x_lv_71 : Cond.methodLink (xc_n 5) 61 (xm_y 90) ∈ xG := x_inG (List.mem_of_getElem? (i := 614) (by decide +kernel)) rfl
theorem x_lv_72 : Cond.methodLink (xc_n 5) 65 (xm_y 89) ∈ xG := x_inG (List.mem_of_getElem? (i := 610) (by decide +kernel)) rfl
theorem x_lv_73 : Cond.methodLink (xc_n 5) 71 (xm_y 91) ∈ xG := x_inG (List.mem_of_getElem? (i := 618) (by decide +kernel)) rfl
theorem x_lv_74 : Cond.methodLink (xc_n 5) 77 (xm_y 92) ∈ xG := x_inG (List.mem_of_getElem? (i := 606) (by decide +kernel)) rfl
theorem x_lv_75 : Cond.methodLink (xc_n 5) 80 (xm_y 93) ∈ xG := x_inG (List.mem_of_getElem? (i := 622) (by decide +kernel)) rfl
theorem x_lv_76 : Cond.methodLink (xc_n 5) 87 (xm_y 95) ∈ xG := x_inG (List.mem_of_getElem? (i := 590) (by decide +kernel)) rfl
theorem x_lv_77 : Cond.methodLink (xc_n 5) 93 (xm_y 98) ∈ xG := x_inG (List.mem_of_getElem? (i := 579) (by decide +kernel)) rfl
theorem x_lv_78 : Cond.methodLink (xc_n 5) 96 (xm_y 97) ∈ xG := x_inG (List.mem_of_getElem? (i := 586) (by decide +kernel)) rfl
theorem x_lv_79 : Cond.methodLink (xc_n 5) 99 (xm_y 96) ∈ xG := x_inG (List.mem_of_getElem? (i := 594) (by decide +kernel)) rfl
theorem x_lv_80 : Cond.methodLink (xc_n 5) 102 (xm_y 99) ∈ xG := x_inG (List.mem_of_getElem? (i := 598) (by decide +kernel)) rfl
theorem x_lv_81 : Cond.methodLink (xc_n 5) 112 (xm_y 100) ∈ xG := x_inG (List.mem_of_getElem? (i := 575) (by decide +kernel)) rfl
theorem x_lv_82 : Cond.methodLink (xc_n 5) 115 (xm_y 94) ∈ xG := x_inG (List.mem_of_getElem? (i := 602) (by decide +kernel)) rfl
theorem x_lv_83 : Cond.methodLink (xc_n 5) 118 (xm_y 102) ∈ xG := x_inG (List.mem_of_getElem? (i := 630) (by decide +kernel)) rfl
theorem x_lv_84 : Cond.methodLink (xc_n 5) 122 (xm_y 108) ∈ xG := x_inG (List.mem_of_getElem? (i := 654) (by decide +kernel)) rfl
theorem x_lv_85 : Cond.methodLink (xc_n 5) 125 (xm_y 119) ∈ xG := x_inG (List.mem_of_getElem? (i := 694) (by decide +kernel)) rfl
theorem x_lv_86 : Cond.methodLink (xc_n 5) 129 (xm_y 118) ∈ xG := x_inG (List.mem_of_getElem? (i := 698) (by decide +kernel)) rfl
theorem x_lv_87 : Cond.methodLink (xc_n 6) 21 (xm_y 51) ∈ xG := x_inG (List.mem_of_getElem? (i := 161) (by decide +kernel)) rfl
theorem x_lv_88 : Cond.methodLink (xc_n 6) 25 (xm_y 101) ∈ xG := x_inG (List.mem_of_getElem? (i := 565) (by decide +kernel)) rfl
theorem x_lv_89 : Cond.methodLink (xc_n 6) 26 (xm_y 52) ∈ xG := x_inG (List.mem_of_getElem? (i := 345) (by decide +kernel)) rfl
theorem x_lv_90 : Cond.methodLink (xc_n 6) 30 (xm_y 103) ∈ xG := x_inG (List.mem_of_getElem? (i := 626) (by decide +kernel)) rfl
theorem x_lv_91 : Cond.methodLink (xc_n 6) 31 (xm_y 53) ∈ xG := x_inG (List.mem_of_getElem? (i := 357) (by decide +kernel)) rfl
theorem x_lv_92 : Cond.methodLink (xc_n 6) 35 (xm_y 104) ∈ xG := x_inG (List.mem_of_getElem? (i := 634) (by decide +kernel)) rfl
theorem x_lv_93 : Cond.methodLink (xc_n 6) 36 (xm_y 54) ∈ xG := x_inG (List.mem_of_getElem? (i := 361) (by decide +kernel)) rfl
theorem x_lv_94 : Cond.methodLink (xc_n 6) 39 (xm_y 105) ∈ xG := x_inG (List.mem_of_getElem? (i := 638) (by decide +kernel)) rfl
theorem x_lv_95 : Cond.methodLink (xc_n 6) 40 (xm_y 55) ∈ xG := x_inG (List.mem_of_getElem? (i := 365) (by decide +kernel)) rfl
theorem x_lv_96 : Cond.methodLink (xc_n 6) 43 (xm_y 106) ∈ xG := x_inG (List.mem_of_getElem? (i := 642) (by decide +kernel)) rfl
theorem x_lv_97 : Cond.methodLink (xc_n 6) 44 (xm_y 56) ∈ xG := x_inG (List.mem_of_getElem? (i := 369) (by decide +kernel)) rfl
theorem x_lv_98 : Cond.methodLink (xc_n 6) 47 (xm_y 107) ∈ xG := x_inG (List.mem_of_getElem? (i := 646) (by decide +kernel)) rfl
theorem x_lv_99 : Cond.methodLink (xc_n 6) 48 (xm_y 57) ∈ xG := x_inG (List.mem_of_getElem? (i := 374) (by decide +kernel)) rfl
theorem x_lv_100 : Cond.methodLink (xc_n 6) 51 (xm_y 109) ∈ xG := x_inG (List.mem_of_getElem? (i := 650) (by decide +kernel)) rfl
theorem x_lv_101 : Cond.methodLink (xc_n 6) 52 (xm_y 58) ∈ xG := x_inG (List.mem_of_getElem? (i := 378) (by decide +kernel)) rfl
theorem x_lv_102 : Cond.methodLink (xc_n 6) 56 (xm_y 110) ∈ xG := x_inG (List.mem_of_getElem? (i := 658) (by decide +kernel)) rfl
theorem x_lv_103 : Cond.methodLink (xc_n 6) 57 (xm_y 59) ∈ xG := x_inG (List.mem_of_getElem? (i := 385) (by decide +kernel)) rfl
theorem x_lv_104 : Cond.methodLink (xc_n 6) 61 (xm_y 111) ∈ xG := x_inG (List.mem_of_getElem? (i := 662) (by decide +kernel)) rfl
theorem x_lv_105 : Cond.methodLink (xc_n 6) 62 (xm_y 60) ∈ xG := x_inG (List.mem_of_getElem? (i := 389) (by decide +kernel)) rfl
theorem x_lv_106 : Cond.methodLink (xc_n 6) 65 (xm_y 112) ∈ xG := x_inG (List.mem_of_getElem? (i := 666) (by decide +kernel)) rfl
theorem x_lv_107 : Cond.methodLink (xc_n 6) 66 (xm_y 61) ∈ xG := x_inG (List.mem_of_getElem? (i := 397) (by decide +kernel)) rfl
theorem x_lv_108 : Cond.methodLink (xc_n 6) 70 (xm_y 113) ∈ xG := x_inG (List.mem_of_getElem? (i := 670) (by decide +kernel)) rfl
theorem x_lv_109 : Cond.methodLink (xc_n 6) 71 (xm_y 62) ∈ xG := x_inG (List.mem_of_getElem? (i := 401) (by decide +kernel)) rfl
theorem x_lv_110 : Cond.methodLink (xc_n 6) 74 (xm_y 114) ∈ xG := x_inG (List.mem_of_getElem? (i := 674) (by decide +kernel)) rfl
theorem x_lv_111 : Cond.methodLink (xc_n 6) 75 (xm_y 63) ∈ xG := x_inG (List.mem_of_getElem? (i := 410) (by decide +kernel)) rfl
theorem x_lv_112 : Cond.methodLink (xc_n 6) 78 (xm_y 115) ∈ xG := x_inG (List.mem_of_getElem? (i := 678) (by decide +kernel)) rfl
theorem x_lv_113 : Cond.methodLink (xc_n 6) 79 (xm_y 64) ∈ xG := x_inG (List.mem_of_getElem? (i := 418) (by decide +kernel)) rfl
theorem x_lv_114 : Cond.methodLink (xc_n 6) 82 (xm_y 116) ∈ xG := x_inG (List.mem_of_getElem? (i := 682) (by decide +kernel)) rfl
theorem x_lv_115 : Cond.methodLink (xc_n 6) 83 (xm_y 65) ∈ xG := x_inG (List.mem_of_getElem? (i := 426) (by decide +kernel)) rfl
theorem x_lv_116 : Cond.methodLink (xc_n 6) 86 (xm_y 117) ∈ xG := x_inG (List.mem_of_getElem? (i := 686) (by decide +kernel)) rfl
theorem x_lv_117 : Cond.methodLink (xc_n 6) 87 (xm_y 66) ∈ xG := x_inG (List.mem_of_getElem? (i := 443) (by decide +kernel)) rfl
theorem x_lv_118 : Cond.methodLink (xc_n 6) 90 (xm_y 120) ∈ xG := x_inG (List.mem_of_getElem? (i := 690) (by decide +kernel)) rfl
theorem x_lv_119 : Cond.methodLink (xc_n 6) 91 (xm_y 67) ∈ xG := x_inG (List.mem_of_getElem? (i := 476) (by decide +kernel)) rfl
theorem x_lv_120 : Cond.methodLink (xc_n 6) 94 (xm_y 121) ∈ xG := x_inG (List.mem_of_getElem? (i := 702) (by decide +kernel)) rfl
theorem x_lv_121 : Cond.methodLink (xc_n 6) 95 (xm_y 68) ∈ xG := x_inG (List.mem_of_getElem? (i := 480) (by decide +kernel)) rfl
theorem x_lv_122 : Cond.methodLink (xc_n 6) 99 (xm_y 122) ∈ xG := x_inG (List.mem_of_getElem? (i := 706) (by decide +kernel)) rfl
theorem x_lv_ok : ∀ e ∈ x_lv, Cond.methodLink (xc_n e.1) e.2.1 (xm_y e.2.2) ∈ xG := List.forall_mem_cons.mpr ⟨x_lv_0, List.forall_mem_cons.mpr ⟨x_lv_1, List.forall_mem_cons.mpr ⟨x_lv_2, List.forall_mem_cons.mpr ⟨x_lv_3, List.forall_mem_cons.mpr ⟨x_lv_4, List.forall_mem_cons.mpr ⟨x_lv_5, List.forall_mem_cons.mpr ⟨x_lv_6, List.forall_mem_cons.mpr ⟨x_lv_7, List.forall_mem_cons.mpr ⟨x_lv_8, List.forall_mem_cons.mpr ⟨x_lv_9, List.forall_mem_cons.mpr ⟨x_lv_10, List.forall_mem_cons.mpr ⟨x_lv_11, List.forall_mem_cons.mpr ⟨x_lv_12, List.forall_mem_cons.mpr ⟨x_lv_13, List.forall_mem_cons.mpr ⟨x_lv_14, List.forall_mem_cons.mpr ⟨x_lv_15, List.forall_mem_cons.mpr ⟨x_lv_16, List.forall_mem_cons.mpr ⟨x_lv_17, List.forall_mem_cons.mpr ⟨x_lv_18, List.forall_mem_cons.mpr ⟨x_lv_19, List.forall_mem_cons.mpr ⟨x_lv_20, List.forall_mem_cons.mpr ⟨x_lv_21, List.forall_mem_cons.mpr ⟨x_lv_22, List.forall_mem_cons.mpr ⟨x_lv_23, List.forall_mem_cons.mpr ⟨x_lv_24, List.forall_mem_cons.mpr ⟨x_lv_25, List.forall_mem_cons.mpr ⟨x_lv_26, List.forall_mem_cons.mpr ⟨x_lv_27, List.forall_mem_cons.mpr ⟨x_lv_28, List.forall_mem_cons.mpr ⟨x_lv_29, List.forall_mem_cons.mpr ⟨x_lv_30, List.forall_mem_cons.mpr ⟨x_lv_31, List.forall_mem_cons.mpr ⟨x_lv_32, List.forall_mem_cons.mpr ⟨x_lv_33, List.forall_mem_cons.mpr ⟨x_lv_34, List.forall_mem_cons.mpr ⟨x_lv_35, List.forall_mem_cons.mpr ⟨x_lv_36, List.forall_mem_cons.mpr ⟨x_lv_37, List.forall_mem_cons.mpr ⟨x_lv_38, List.forall_mem_cons.mpr ⟨x_lv_39, List.forall_mem_cons.mpr ⟨x_lv_40, List.forall_mem_cons.mpr ⟨x_lv_41, List.forall_mem_cons.mpr ⟨x_lv_42, List.forall_mem_cons.mpr ⟨x_lv_43, List.forall_mem_cons.mpr ⟨x_lv_44, List.forall_mem_cons.mpr ⟨x_lv_45, List.forall_mem_cons.mpr ⟨x_lv_46, List.forall_mem_cons.mpr ⟨x_lv_47, List.forall_mem_cons.mpr ⟨x_lv_48, List.forall_mem_cons.mpr ⟨x_lv_49, List.forall_mem_cons.mpr ⟨x_lv_50, List.forall_mem_cons.mpr ⟨x_lv_51, List.forall_mem_cons.mpr ⟨x_lv_52, List.forall_mem_cons.mpr ⟨x_lv_53, List.forall_mem_cons.mpr ⟨x_lv_54, List.forall_mem_cons.mpr ⟨x_lv_55, List.forall_mem_cons.mpr ⟨x_lv_56, List.forall_mem_cons.mpr ⟨x_lv_57, List.forall_mem_cons.mpr ⟨x_lv_58, List.forall_mem_cons.mpr ⟨x_lv_59, List.forall_mem_cons.mpr ⟨x_lv_60, List.forall_mem_cons.mpr ⟨x_lv_61, List.forall_mem_cons.mpr ⟨x_lv_62, List.forall_mem_cons.mpr ⟨x_lv_63, List.forall_mem_cons.mpr ⟨x_lv_64, List.forall_mem_cons.mpr ⟨x_lv_65, List.forall_mem_cons.mpr ⟨x_lv_66, List.forall_mem_cons.mpr ⟨x_lv_67, List.forall_mem_cons.mpr ⟨x_lv_68, List.forall_mem_cons.mpr ⟨x_lv_69, List.forall_mem_cons.mpr ⟨x_lv_70, List.forall_mem_cons.mpr ⟨x_lv_71, List.forall_mem_cons.mpr ⟨x_lv_72, List.forall_mem_cons.mpr ⟨x_lv_73, List.forall_mem_cons.mpr ⟨x_lv_74, List.forall_mem_cons.mpr ⟨x_lv_75, List.forall_mem_cons.mpr ⟨x_lv_76, List.forall_mem_cons.mpr ⟨x_lv_77, List.forall_mem_cons.mpr ⟨x_lv_78, List.forall_mem_cons.mpr ⟨x_lv_79, List.forall_mem_cons.mpr ⟨x_lv_80, List.forall_mem_cons.mpr ⟨x_lv_81, List.forall_mem_cons.mpr ⟨x_lv_82, List.forall_mem_cons.mpr ⟨x_lv_83, List.forall_mem_cons.mpr ⟨x_lv_84, List.forall_mem_cons.mpr ⟨x_lv_85, List.forall_mem_cons.mpr ⟨x_lv_86, List.forall_mem_cons.mpr ⟨x_lv_87, List.forall_mem_cons.mpr ⟨x_lv_88, List.forall_mem_cons.mpr ⟨x_lv_89, List.forall_mem_cons.mpr ⟨x_lv_90, List.forall_mem_cons.mpr ⟨x_lv_91, List.forall_mem_cons.mpr ⟨x_lv_92, List.forall_mem_cons.mpr ⟨x_lv_93, List.forall_mem_cons.mpr ⟨x_lv_94, List.forall_mem_cons.mpr ⟨x_lv_95, List.forall_mem_cons.mpr ⟨x_lv_96, List.forall_mem_cons.mpr ⟨x_lv_97, List.forall_mem_cons.mpr ⟨x_lv_98, List.forall_mem_cons.mpr ⟨x_lv_99, List.forall_mem_cons.mpr ⟨x_lv_100, List.forall_mem_cons.mpr ⟨x_lv_101, List.forall_mem_cons.mpr ⟨x_lv_102, List.forall_mem_cons.mpr ⟨x_lv_103, List.forall_mem_cons.mpr ⟨x_lv_104, List.forall_mem_cons.mpr ⟨x_lv_105, List.forall_mem_cons.mpr ⟨x_lv_106, List.forall_mem_cons.mpr ⟨x_lv_107, List.forall_mem_cons.mpr ⟨x_lv_108, List.forall_mem_cons.mpr ⟨x_lv_109, List.forall_mem_cons.mpr ⟨x_lv_110, List.forall_mem_cons.mpr ⟨x_lv_111, List.forall_mem_cons.mpr ⟨x_lv_112, List.forall_mem_cons.mpr ⟨x_lv_113, List.forall_mem_cons.mpr ⟨x_lv_114, List.forall_mem_cons.mpr ⟨x_lv_115, List.forall_mem_cons.mpr ⟨x_lv_116, List.forall_mem_cons.mpr ⟨x_lv_117, List.forall_mem_cons.mpr ⟨x_lv_118, List.forall_mem_cons.mpr ⟨x_lv_119, List.forall_mem_cons.mpr ⟨x_lv_120, List.forall_mem_cons.mpr ⟨x_lv_121, List.forall_mem_cons.mpr ⟨x_lv_122, fun _ h => absurd h List.not_mem_nil⟩⟩⟩⟩⟩⟩⟩⟩⟩⟩⟩⟩⟩⟩⟩⟩⟩⟩⟩⟩⟩⟩⟩⟩⟩⟩⟩⟩⟩⟩⟩⟩⟩⟩⟩⟩⟩⟩⟩⟩⟩⟩⟩⟩⟩⟩⟩⟩⟩⟩⟩⟩⟩⟩⟩⟩⟩⟩⟩⟩⟩⟩⟩⟩⟩⟩⟩⟩⟩⟩⟩⟩⟩⟩⟩⟩⟩⟩⟩⟩⟩⟩⟩⟩⟩⟩⟩⟩⟩⟩⟩⟩⟩⟩⟩⟩⟩⟩⟩⟩⟩⟩⟩⟩⟩⟩⟩⟩⟩⟩⟩⟩⟩⟩⟩⟩⟩⟩⟩⟩⟩⟩⟩
theorem x_ls_0 : Cond.methodLink (xc_n 4) 57 (xm_y 73) ∈ xG := x_inG (List.mem_of_getElem? (i := 165) (by decide +kernel)) rfl
theorem x_ls_1 : Cond.methodLink (xc_n 4) 65 (xm_y 72) ∈ xG := x_inG (List.mem_of_getElem? (i := 168) (by decide +kernel)) rfl
theorem x_ls_2 : Cond.methodLink (xc_n 4) 92 (xm_y 69) ∈ xG := x_inG (List.mem_of_getElem? (i := 382) (by decide +kernel)) rfl
theorem x_ls_3 : Cond.methodLink (xc_n 4) 192 (xm_y 70) ∈ xG := x_inG (List.mem_of_getElem? (i := 171) (by decide +kernel)) rfl
theorem x_ls_4 : Cond.methodLink (xc_n 5) 54 (xm_y 86) ∈ xG := x_inG (List.mem_of_getElem? (i := 572) (by decide +kernel)) rfl
theorem x_ls_5 : Cond.methodLink (xc_n 5) 83 (xm_y 88) ∈ xG := x_inG (List.mem_of_getElem? (i := 583) (by decide +kernel)) rfl
theorem x_ls_6 : Cond.methodLink (xc_n 5) 105 (xm_y 87) ∈ xG := x_inG (List.mem_of_getElem? (i := 569) (by decide +kernel)) rfl
theorem x_ls_7 : Cond.methodLink (xc_n 6) 9 (xm_y 123) ∈ xG := x_inG (List.mem_of_getElem? (i := 498) (by decide +kernel)) rfl
theorem x_ls_ok : ∀ e ∈ x_ls, Cond.methodLink (xc_n e.1) e.2.1 (xm_y e.2.2) ∈ xG := List.forall_mem_cons.mpr ⟨x_ls_0, List.forall_mem_cons.mpr ⟨x_ls_1, List.forall_mem_cons.mpr ⟨x_ls_2, List.forall_mem_cons.mpr ⟨x_ls_3, List.forall_mem_cons.mpr ⟨x_ls_4, List.forall_mem_cons.mpr ⟨x_ls_5, List.forall_mem_cons.mpr ⟨x_ls_6, List.forall_mem_cons.mpr ⟨x_ls_7, fun _ h => absurd h List.not_mem_nil⟩⟩⟩⟩⟩⟩⟩⟩
theorem x_li_0 : Cond.methodLink (xc_n 4) 20 (xm_y 29) ∈ xG := x_inG (List.mem_of_getElem? (i := 60) (by decide +kernel)) rfl
theorem x_li_1 : Cond.methodLink (xc_n 4) 29 (xm_y 42) ∈ xG := x_inG (List.mem_of_getElem? (i := 84) (by decide +kernel)) rfl
theorem x_li_2 : Cond.methodLink (xc_n 4) 39 (xm_y 24) ∈ xG := x_inG (List.mem_of_getElem? (i := 103) (by decide +kernel)) rfl
theorem x_li_3 : Cond.methodLink (xc_n 4) 46 (xm_y 0) ∈ xG := x_inG (List.mem_of_getElem? (i := 116) (by decide +kernel)) rfl
theorem x_li_4 : Cond.methodLink (xc_n 6) 15 (xm_y 50) ∈ xG := x_inG (List.mem_of_getElem? (i := 46) (by decide +kernel)) rfl
theorem x_li_5 : Cond.methodLink (xc_n 6) 20 (xm_y 85) ∈ xG := x_inG (List.mem_of_getElem? (i := 503) (by decide +kernel)) rfl
theorem x_li_ok : ∀ e ∈ x_li, Cond.methodLink (xc_n e.1) e.2.1 (xm_y e.2.2) ∈ xG := List.forall_mem_cons.mpr ⟨x_li_0, List.forall_mem_cons.mpr ⟨x_li_1, List.forall_mem_cons.mpr ⟨x_li_2, List.forall_mem_cons.mpr ⟨x_li_3, List.forall_mem_cons.mpr ⟨x_li_4, List.forall_mem_cons.mpr ⟨x_li_5, fun _ h => absurd h List.not_mem_nil⟩⟩⟩⟩⟩⟩
theorem x_nw_0 : Cond.classLink (xc_n 4) 18 (xc_n 2) ∈ xG := x_inG (List.mem_of_getElem? (i := 58) (by decide +kernel)) rfl
theorem x_nw_1 : Cond.classLink (xc_n 4) 27 (xc_n 3) ∈ xG := x_inG (List.mem_of_getElem? (i := 82) (by decide +kernel)) rfl
theorem x_nw_2 : Cond.classLink (xc_n 4) 37 (xc_n 1) ∈ xG := x_inG (List.mem_of_getElem? (i := 101) (by decide +kernel)) rfl
theorem x_nw_3 : Cond.classLink (xc_n 4) 44 (xc_n 0) ∈ xG := x_inG (List.mem_of_getElem? (i := 114) (by decide +kernel)) rfl
theorem x_nw_4 : Cond.classLink (xc_n 6) 7 (xc_n 4) ∈ xG := x_inG (List.mem_of_getElem? (i := 44) (by decide +kernel)) rfl
theorem x_nw_5 : Cond.classLink (xc_n 6) 18 (xc_n 5) ∈ xG := x_inG (List.mem_of_getElem? (i := 501) (by decide +kernel)) rfl
theorem x_nw_ok : ∀ e ∈ x_nw, Cond.classLink (xc_n e.1) e.2.1 (xc_n e.2.2) ∈ xG := List.forall_mem_cons.mpr ⟨x_nw_0, List.forall_mem_cons.mpr ⟨x_nw_1, List.forall_mem_cons.mpr ⟨x_nw_2, List.forall_mem_cons.mpr ⟨x_nw_3, List.forall_mem_cons.mpr ⟨x_nw_4, List.forall_mem_cons.mpr ⟨x_nw_5, fun _ h => absurd h List.not_mem_nil⟩⟩⟩⟩⟩⟩
theorem x_cl_0 : Cond.constantLong (xc_n 4) 171 (x_cL 1000002) ∈ xG := x_inG (List.mem_of_getElem? (i := 484) (by decide +kernel)) rfl
theorem x_cl_1 : Cond.constantLong (xc_n 4) 183 (x_cL 7) ∈ xG := x_inG (List.mem_of_getElem? (i := 485) (by decide +kernel)) rfl
theorem x_cl_2 : Cond.constantLong (xc_n 4) 220 (x_cL 31) ∈ xG := x_inG (List.mem_of_getElem? (i := 490) (by decide +kernel)) rfl
theorem x_cl_3 : Cond.constantLong (xc_n 4) 226 (x_cL 3) ∈ xG := x_inG (List.mem_of_getElem? (i := 495) (by decide +kernel)) rfl
theorem x_cl_4 : Cond.constantLong (xc_n 4) 231 (x_cL 2) ∈ xG := x_inG (List.mem_of_getElem? (i := 497) (by decide +kernel)) rfl
theorem x_cl_5 : Cond.constantLong (xc_n 5) 133 (x_cL 1000002) ∈ xG := x_inG (List.mem_of_getElem? (i := 710) (by decide +kernel)) rfl
theorem x_cl_6 : Cond.constantLong (xc_n 5) 135 (x_cL 7) ∈ xG := x_inG (List.mem_of_getElem? (i := 711) (by decide +kernel)) rfl
theorem x_cl_7 : Cond.constantLong (xc_n 5) 137 (x_cL 31) ∈ xG := x_inG (List.mem_of_getElem? (i := 712) (by decide +kernel)) rfl
theorem x_cl_8 : Cond.constantLong (xc_n 5) 139 (x_cL 3) ∈ xG := x_inG (List.mem_of_getElem? (i := 713) (by decide +kernel)) rfl
theorem x_cl_9 : Cond.constantLong (xc_n 5) 141 (x_cL 2) ∈ xG := x_inG (List.mem_of_getElem? (i := 714) (by decide +kernel)) rfl
theorem x_cl_ok : ∀ e ∈ x_cl, Cond.constantLong (xc_n e.1) e.2.1 (x_cL e.2.2) ∈ xG := List.forall_mem_cons.mpr ⟨x_cl_0, List.forall_mem_cons.mpr ⟨x_cl_1, List.forall_mem_cons.mpr ⟨x_cl_2, List.forall_mem_cons.mpr ⟨x_cl_3, List.forall_mem_cons.mpr ⟨x_cl_4, List.forall_mem_cons.mpr ⟨x_cl_5, List.forall_mem_cons.mpr ⟨x_cl_6, List.forall_mem_cons.mpr ⟨x_cl_7, List.forall_mem_cons.mpr ⟨x_cl_8, List.forall_mem_cons.mpr ⟨x_cl_9, fun _ h => absurd h List.not_mem_nil⟩⟩⟩⟩⟩⟩⟩⟩⟩⟩
theorem x_nest_0 : x_nest[0]? = some (Cond.methodLinkNest (xc_n 0) 39 (xm_y 71) "LazyBlocks") := rfl
theorem x_nest_1 : x_nest[1]? = some (Cond.methodLinkNest (xc_n 0) 42 (xm_y 70) "LazyBlocks") := rfl
theorem x_nest_2 : x_nest[2]? = some (Cond.methodLinkNest (xc_n 0) 57 (xm_y 69) "LazyBlocks") := rfl
theorem x_nest_3 : x_nest[3]? = some (Cond.methodLinkNest (xc_n 2) 36 (xm_y 69) "LazyBlocks") := rfl
theorem x_ln_ok : ∀ e ∈ x_ln, Cond.methodLinkNest (xc_n e.1) e.2.1 (xm_y e.2.2) "LazyBlocks" ∈ x_nest := List.forall_mem_cons.mpr ⟨List.mem_of_getElem? x_nest_0, List.forall_mem_cons.mpr ⟨List.mem_of_getElem? x_nest_1, List.forall_mem_cons.mpr ⟨List.mem_of_getElem? x_nest_2, List.forall_mem_cons.mpr ⟨List.mem_of_getElem? x_nest_3, fun _ h => absurd h List.not_mem_nil⟩⟩⟩⟩
theorem x_nest_tbl : ∀ w ∈ x_nest, w ∈ lw_tbl := List.forall_mem_cons.mpr ⟨List.mem_of_getElem? (i := 206) (by decide +kernel), List.forall_mem_cons.mpr ⟨List.mem_of_getElem? (i := 213) (by decide +kernel), List.forall_mem_cons.mpr ⟨List.mem_of_getElem? (i := 437) (by decide +kernel), List.forall_mem_cons.mpr ⟨List.mem_of_getElem? (i := 471) (by decide +kernel), fun _ h => absurd h List.not_mem_nil⟩⟩⟩⟩
theorem x_us_0 : ∀ w ∈ u_ws (xc_n 0) (xc_T 0) (xc_N 0), w ∈ xG := List.forall_mem_cons.mpr ⟨x_inG (List.mem_of_getElem? (i := 125) (by decide +kernel)) rfl, List.forall_mem_cons.mpr ⟨x_inG (List.mem_of_getElem? (i := 127) (by decide +kernel)) rfl, List.forall_mem_cons.mpr ⟨x_inG (List.mem_of_getElem? (i := 129) (by decide +kernel)) rfl, List.forall_mem_cons.mpr ⟨x_inG (List.mem_of_getElem? (i := 131) (by decide +kernel)) rfl, List.forall_mem_cons.mpr ⟨x_inG (List.mem_of_getElem? (i := 133) (by decide +kernel)) rfl, fun _ h => absurd h List.not_mem_nil⟩⟩⟩⟩⟩
theorem x_ck_0 : Cond.instantiable (xc_n 0) (xc_N 0) ∈ xG ∧ Cond.initialized (xc_n 0) ∈ xG := ⟨x_inG (List.mem_of_getElem? (i := 115) (by decide +kernel)) rfl, x_inG (List.mem_of_getElem? (i := 42) (by decide +kernel)) rfl⟩
theorem x_us_1 : ∀ w ∈ u_ws (xc_n 1) (xc_T 1) (xc_N 1), w ∈ xG := List.forall_mem_cons.mpr ⟨x_inG (List.mem_of_getElem? (i := 109) (by decide +kernel)) rfl, List.forall_mem_cons.mpr ⟨x_inG (List.mem_of_getElem? (i := 111) (by decide +kernel)) rfl, fun _ h => absurd h List.not_mem_nil⟩⟩
theorem x_ck_1 : Cond.instantiable (xc_n 1) (xc_N 1) ∈ xG ∧ Cond.initialized (xc_n 1) ∈ xG := ⟨x_inG (List.mem_of_getElem? (i := 102) (by decide +kernel)) rfl, x_inG (List.mem_of_getElem? (i := 41) (by decide +kernel)) rfl⟩
theorem x_us_2 : ∀ w ∈ u_ws (xc_n 2) (xc_T 2) (xc_N 2), w ∈ xG := List.forall_mem_cons.mpr ⟨x_inG (List.mem_of_getElem? (i := 69) (by decide +kernel)) rfl, List.forall_mem_cons.mpr ⟨x_inG (List.mem_of_getElem? (i := 71) (by decide +kernel)) rfl, List.forall_mem_cons.mpr ⟨x_inG (List.mem_of_getElem? (i := 73) (by decide +kernel)) rfl, List.forall_mem_cons.mpr ⟨x_inG (List.mem_of_getElem? (i := 75) (by decide +kernel)) rfl, List.forall_mem_cons.mpr ⟨x_inG (List.mem_of_getElem? (i := 77) (by decide +kernel)) rfl, fun _ h => absurd h List.not_mem_nil⟩⟩⟩⟩⟩
theorem x_ck_2 : Cond.instantiable (xc_n 2) (xc_N 2) ∈ xG ∧ Cond.initialized (xc_n 2) ∈ xG := ⟨x_inG (List.mem_of_getElem? (i := 59) (by decide +kernel)) rfl, x_inG (List.mem_of_getElem? (i := 39) (by decide +kernel)) rfl⟩
theorem x_us_3 : ∀ w ∈ u_ws (xc_n 3) (xc_T 3) (xc_N 3), w ∈ xG := List.forall_mem_cons.mpr ⟨x_inG (List.mem_of_getElem? (i := 92) (by decide +kernel)) rfl, List.forall_mem_cons.mpr ⟨x_inG (List.mem_of_getElem? (i := 94) (by decide +kernel)) rfl, List.forall_mem_cons.mpr ⟨x_inG (List.mem_of_getElem? (i := 96) (by decide +kernel)) rfl, List.forall_mem_cons.mpr ⟨x_inG (List.mem_of_getElem? (i := 98) (by decide +kernel)) rfl, fun _ h => absurd h List.not_mem_nil⟩⟩⟩⟩
theorem x_ck_3 : Cond.instantiable (xc_n 3) (xc_N 3) ∈ xG ∧ Cond.initialized (xc_n 3) ∈ xG := ⟨x_inG (List.mem_of_getElem? (i := 83) (by decide +kernel)) rfl, x_inG (List.mem_of_getElem? (i := 40) (by decide +kernel)) rfl⟩
theorem x_us_4 : ∀ w ∈ u_ws (xc_n 4) (xc_T 4) (xc_N 4), w ∈ xG := List.forall_mem_cons.mpr ⟨x_inG (List.mem_of_getElem? (i := 144) (by decide +kernel)) rfl, List.forall_mem_cons.mpr ⟨x_inG (List.mem_of_getElem? (i := 146) (by decide +kernel)) rfl, List.forall_mem_cons.mpr ⟨x_inG (List.mem_of_getElem? (i := 148) (by decide +kernel)) rfl, List.forall_mem_cons.mpr ⟨x_inG (List.mem_of_getElem? (i := 150) (by decide +kernel)) rfl, List.forall_mem_cons.mpr ⟨x_inG (List.mem_of_getElem? (i := 152) (by decide +kernel)) rfl, List.forall_mem_cons.mpr ⟨x_inG (List.mem_of_getElem? (i := 154) (by decide +kernel)) rfl, List.forall_mem_cons.mpr ⟨x_inG (List.mem_of_getElem? (i := 156) (by decide +kernel)) rfl, List.forall_mem_cons.mpr ⟨x_inG (List.mem_of_getElem? (i := 158) (by decide +kernel)) rfl, fun _ h => absurd h List.not_mem_nil⟩⟩⟩⟩⟩⟩⟩⟩
theorem x_ck_4 : Cond.instantiable (xc_n 4) (xc_N 4) ∈ xG ∧ Cond.initialized (xc_n 4) ∈ xG := ⟨x_inG (List.mem_of_getElem? (i := 45) (by decide +kernel)) rfl, x_inG (List.mem_of_getElem? (i := 37) (by decide +kernel)) rfl⟩
theorem x_us_5 : ∀ w ∈ u_ws (xc_n 5) (xc_T 5) (xc_N 5), w ∈ xG := List.forall_mem_cons.mpr ⟨x_inG (List.mem_of_getElem? (i := 526) (by decide +kernel)) rfl, List.forall_mem_cons.mpr ⟨x_inG (List.mem_of_getElem? (i := 528) (by decide +kernel)) rfl, List.forall_mem_cons.mpr ⟨x_inG (List.mem_of_getElem? (i := 530) (by decide +kernel)) rfl, List.forall_mem_cons.mpr ⟨x_inG (List.mem_of_getElem? (i := 532) (by decide +kernel)) rfl, List.forall_mem_cons.mpr ⟨x_inG (List.mem_of_getElem? (i := 534) (by decide +kernel)) rfl, List.forall_mem_cons.mpr ⟨x_inG (List.mem_of_getElem? (i := 536) (by decide +kernel)) rfl, List.forall_mem_cons.mpr ⟨x_inG (List.mem_of_getElem? (i := 538) (by decide +kernel)) rfl, List.forall_mem_cons.mpr ⟨x_inG (List.mem_of_getElem? (i := 540) (by decide +kernel)) rfl, List.forall_mem_cons.mpr ⟨x_inG (List.mem_of_getElem? (i := 542) (by decide +kernel)) rfl, List.forall_mem_cons.mpr ⟨x_inG (List.mem_of_getElem? (i := 544) (by decide +kernel)) rfl, List.forall_mem_cons.mpr ⟨x_inG (List.mem_of_getElem? (i := 546) (by decide +kernel)) rfl, List.forall_mem_cons.mpr ⟨x_inG (List.mem_of_getElem? (i := 548) (by decide +kernel)) rfl, List.forall_mem_cons.mpr ⟨x_inG (List.mem_of_getElem? (i := 550) (by decide +kernel)) rfl, List.forall_mem_cons.mpr ⟨x_inG (List.mem_of_getElem? (i := 552) (by decide +kernel)) rfl, List.forall_mem_cons.mpr ⟨x_inG (List.mem_of_getElem? (i := 554) (by decide +kernel)) rfl, List.forall_mem_cons.mpr ⟨x_inG (List.mem_of_getElem? (i := 556) (by decide +kernel)) rfl, List.forall_mem_cons.mpr ⟨x_inG (List.mem_of_getElem? (i := 558) (by decide +kernel)) rfl, List.forall_mem_cons.mpr ⟨x_inG (List.mem_of_getElem? (i := 560) (by decide +kernel)) rfl, List.forall_mem_cons.mpr ⟨x_inG (List.mem_of_getElem? (i := 562) (by decide +kernel)) rfl, fun _ h => absurd h List.not_mem_nil⟩⟩⟩⟩⟩⟩⟩⟩⟩⟩⟩⟩⟩⟩⟩⟩⟩⟩⟩
theorem x_ck_5 : Cond.instantiable (xc_n 5) (xc_N 5) ∈ xG ∧ Cond.initialized (xc_n 5) ∈ xG := ⟨x_inG (List.mem_of_getElem? (i := 502) (by decide +kernel)) rfl, x_inG (List.mem_of_getElem? (i := 43) (by decide +kernel)) rfl⟩
theorem x_ck_6 : Cond.initialized (xc_n 6) ∈ xG := x_inG (List.mem_of_getElem? (i := 36) (by decide +kernel)) rfl
theorem x_me_0 : Cond.code (xm_y 0) (xm_b 0) (xm_L 0) (xm_r 0) ∈ xG ∧ Cond.instanceMethod (xm_y 0) ∈ xG := ⟨x_inG (List.mem_of_getElem? (i := 118) (by decide +kernel)) rfl, x_inG (List.mem_of_getElem? (i := 117) (by decide +kernel)) rfl⟩
theorem x_me_1 : Cond.code (xm_y 1) (xm_b 1) (xm_L 1) (xm_r 1) ∈ xG ∧ Cond.instanceMethod (xm_y 1) ∈ xG ∧ Cond.selects (xm_o 1) (xm_y 1) (xm_y 1) ∈ xG := ⟨x_inG (List.mem_of_getElem? (i := 193) (by decide +kernel)) rfl, ⟨x_inG (List.mem_of_getElem? (i := 191) (by decide +kernel)) rfl, x_inG (List.mem_of_getElem? (i := 192) (by decide +kernel)) rfl⟩⟩
theorem x_me_2 : Cond.code (xm_y 2) (xm_b 2) (xm_L 2) (xm_r 2) ∈ xG ∧ Cond.instanceMethod (xm_y 2) ∈ xG ∧ Cond.selects (xm_o 2) (xm_y 2) (xm_y 2) ∈ xG := ⟨x_inG (List.mem_of_getElem? (i := 205) (by decide +kernel)) rfl, ⟨x_inG (List.mem_of_getElem? (i := 203) (by decide +kernel)) rfl, x_inG (List.mem_of_getElem? (i := 204) (by decide +kernel)) rfl⟩⟩
theorem x_me_3 : Cond.code (xm_y 3) (xm_b 3) (xm_L 3) (xm_r 3) ∈ xG ∧ Cond.instanceMethod (xm_y 3) ∈ xG ∧ Cond.selects (xm_o 3) (xm_y 3) (xm_y 3) ∈ xG := ⟨x_inG (List.mem_of_getElem? (i := 189) (by decide +kernel)) rfl, ⟨x_inG (List.mem_of_getElem? (i := 187) (by decide +kernel)) rfl, x_inG (List.mem_of_getElem? (i := 188) (by decide +kernel)) rfl⟩⟩
theorem x_me_4 : Cond.code (xm_y 4) (xm_b 4) (xm_L 4) (xm_r 4) ∈ xG ∧ Cond.instanceMethod (xm_y 4) ∈ xG ∧ Cond.selects (xm_o 4) (xm_y 4) (xm_y 4) ∈ xG := ⟨x_inG (List.mem_of_getElem? (i := 458) (by decide +kernel)) rfl, ⟨x_inG (List.mem_of_getElem? (i := 456) (by decide +kernel)) rfl, x_inG (List.mem_of_getElem? (i := 457) (by decide +kernel)) rfl⟩⟩
theorem x_me_5 : Cond.code (xm_y 5) (xm_b 5) (xm_L 5) (xm_r 5) ∈ xG ∧ Cond.instanceMethod (xm_y 5) ∈ xG ∧ Cond.selects (xm_o 5) (xm_y 5) (xm_y 5) ∈ xG := ⟨x_inG (List.mem_of_getElem? (i := 201) (by decide +kernel)) rfl, ⟨x_inG (List.mem_of_getElem? (i := 200) (by decide +kernel)) rfl, x_inG (List.mem_of_getElem? (i := 3) (by decide +kernel)) rfl⟩⟩
theorem x_me_6 : Cond.code (xm_y 6) (xm_b 6) (xm_L 6) (xm_r 6) ∈ xG ∧ Cond.instanceMethod (xm_y 6) ∈ xG ∧ Cond.selects (xm_o 6) (xm_y 6) (xm_y 6) ∈ xG := ⟨x_inG (List.mem_of_getElem? (i := 212) (by decide +kernel)) rfl, ⟨x_inG (List.mem_of_getElem? (i := 211) (by decide +kernel)) rfl, x_inG (List.mem_of_getElem? (i := 4) (by decide +kernel)) rfl⟩⟩
theorem x_me_7 : Cond.code (xm_y 7) (xm_b 7) (xm_L 7) (xm_r 7) ∈ xG ∧ Cond.instanceMethod (xm_y 7) ∈ xG ∧ Cond.selects (xm_o 7) (xm_y 7) (xm_y 7) ∈ xG := ⟨x_inG (List.mem_of_getElem? (i := 425) (by decide +kernel)) rfl, ⟨x_inG (List.mem_of_getElem? (i := 423) (by decide +kernel)) rfl, x_inG (List.mem_of_getElem? (i := 424) (by decide +kernel)) rfl⟩⟩
theorem x_me_8 : Cond.code (xm_y 8) (xm_b 8) (xm_L 8) (xm_r 8) ∈ xG ∧ Cond.instanceMethod (xm_y 8) ∈ xG ∧ Cond.selects (xm_o 8) (xm_y 8) (xm_y 8) ∈ xG := ⟨x_inG (List.mem_of_getElem? (i := 436) (by decide +kernel)) rfl, ⟨x_inG (List.mem_of_getElem? (i := 434) (by decide +kernel)) rfl, x_inG (List.mem_of_getElem? (i := 435) (by decide +kernel)) rfl⟩⟩
theorem x_me_9 : Cond.code (xm_y 9) (xm_b 9) (xm_L 9) (xm_r 9) ∈ xG ∧ Cond.instanceMethod (xm_y 9) ∈ xG ∧ Cond.selects (xm_o 9) (xm_y 9) (xm_y 9) ∈ xG := ⟨x_inG (List.mem_of_getElem? (i := 441) (by decide +kernel)) rfl, ⟨x_inG (List.mem_of_getElem? (i := 439) (by decide +kernel)) rfl, x_inG (List.mem_of_getElem? (i := 440) (by decide +kernel)) rfl⟩⟩
theorem x_me_10 : Cond.code (xm_y 10) (xm_b 10) (xm_L 10) (xm_r 10) ∈ xG ∧ Cond.instanceMethod (xm_y 10) ∈ xG ∧ Cond.selects (xm_o 10) (xm_y 10) (xm_y 10) ∈ xG := ⟨x_inG (List.mem_of_getElem? (i := 450) (by decide +kernel)) rfl, ⟨x_inG (List.mem_of_getElem? (i := 448) (by decide +kernel)) rfl, x_inG (List.mem_of_getElem? (i := 449) (by decide +kernel)) rfl⟩⟩
theorem x_me_11 : Cond.code (xm_y 11) (xm_b 11) (xm_L 11) (xm_r 11) ∈ xG ∧ Cond.instanceMethod (xm_y 11) ∈ xG ∧ Cond.selects (xm_o 11) (xm_y 11) (xm_y 11) ∈ xG := ⟨x_inG (List.mem_of_getElem? (i := 454) (by decide +kernel)) rfl, ⟨x_inG (List.mem_of_getElem? (i := 452) (by decide +kernel)) rfl, x_inG (List.mem_of_getElem? (i := 453) (by decide +kernel)) rfl⟩⟩
theorem x_me_12 : Cond.code (xm_y 12) (xm_b 12) (xm_L 12) (xm_r 12) ∈ xG ∧ Cond.instanceMethod (xm_y 12) ∈ xG ∧ Cond.selects (xm_o 12) (xm_y 12) (xm_y 12) ∈ xG := ⟨x_inG (List.mem_of_getElem? (i := 462) (by decide +kernel)) rfl, ⟨x_inG (List.mem_of_getElem? (i := 460) (by decide +kernel)) rfl, x_inG (List.mem_of_getElem? (i := 461) (by decide +kernel)) rfl⟩⟩
theorem x_me_13 : Cond.code (xm_y 13) (xm_b 13) (xm_L 13) (xm_r 13) ∈ xG ∧ Cond.instanceMethod (xm_y 13) ∈ xG ∧ Cond.selects (xm_o 13) (xm_y 13) (xm_y 13) ∈ xG := ⟨x_inG (List.mem_of_getElem? (i := 466) (by decide +kernel)) rfl, ⟨x_inG (List.mem_of_getElem? (i := 464) (by decide +kernel)) rfl, x_inG (List.mem_of_getElem? (i := 465) (by decide +kernel)) rfl⟩⟩
theorem x_me_14 : Cond.code (xm_y 14) (xm_b 14) (xm_L 14) (xm_r 14) ∈ xG ∧ Cond.instanceMethod (xm_y 14) ∈ xG ∧ Cond.selects (xm_o 14) (xm_y 14) (xm_y 14) ∈ xG := ⟨x_inG (List.mem_of_getElem? (i := 408) (by decide +kernel)) rfl, ⟨x_inG (List.mem_of_getElem? (i := 406) (by decide +kernel)) rfl, x_inG (List.mem_of_getElem? (i := 407) (by decide +kernel)) rfl⟩⟩
theorem x_me_15 : Cond.code (xm_y 15) (xm_b 15) (xm_L 15) (xm_r 15) ∈ xG ∧ Cond.instanceMethod (xm_y 15) ∈ xG ∧ Cond.selects (xm_o 15) (xm_y 15) (xm_y 15) ∈ xG := ⟨x_inG (List.mem_of_getElem? (i := 339) (by decide +kernel)) rfl, ⟨x_inG (List.mem_of_getElem? (i := 337) (by decide +kernel)) rfl, x_inG (List.mem_of_getElem? (i := 338) (by decide +kernel)) rfl⟩⟩
theorem x_me_16 : Cond.code (xm_y 16) (xm_b 16) (xm_L 16) (xm_r 16) ∈ xG ∧ Cond.instanceMethod (xm_y 16) ∈ xG ∧ Cond.selects (xm_o 16) (xm_y 16) (xm_y 16) ∈ xG := ⟨x_inG (List.mem_of_getElem? (i := 229) (by decide +kernel)) rfl, ⟨x_inG (List.mem_of_getElem? (i := 227) (by decide +kernel)) rfl, x_inG (List.mem_of_getElem? (i := 228) (by decide +kernel)) rfl⟩⟩
theorem x_me_17 : Cond.code (xm_y 17) (xm_b 17) (xm_L 17) (xm_r 17) ∈ xG ∧ Cond.instanceMethod (xm_y 17) ∈ xG ∧ Cond.selects (xm_o 17) (xm_y 17) (xm_y 17) ∈ xG := ⟨x_inG (List.mem_of_getElem? (i := 181) (by decide +kernel)) rfl, ⟨x_inG (List.mem_of_getElem? (i := 179) (by decide +kernel)) rfl, x_inG (List.mem_of_getElem? (i := 180) (by decide +kernel)) rfl⟩⟩
theorem x_me_18 : Cond.code (xm_y 18) (xm_b 18) (xm_L 18) (xm_r 18) ∈ xG ∧ Cond.instanceMethod (xm_y 18) ∈ xG ∧ Cond.selects (xm_o 18) (xm_y 18) (xm_y 18) ∈ xG := ⟨x_inG (List.mem_of_getElem? (i := 185) (by decide +kernel)) rfl, ⟨x_inG (List.mem_of_getElem? (i := 184) (by decide +kernel)) rfl, x_inG (List.mem_of_getElem? (i := 1) (by decide +kernel)) rfl⟩⟩
theorem x_me_19 : Cond.code (xm_y 19) (xm_b 19) (xm_L 19) (xm_r 19) ∈ xG ∧ Cond.instanceMethod (xm_y 19) ∈ xG ∧ Cond.selects (xm_o 19) (xm_y 19) (xm_y 19) ∈ xG := ⟨x_inG (List.mem_of_getElem? (i := 197) (by decide +kernel)) rfl, ⟨x_inG (List.mem_of_getElem? (i := 196) (by decide +kernel)) rfl, x_inG (List.mem_of_getElem? (i := 2) (by decide +kernel)) rfl⟩⟩
theorem x_me_20 : Cond.code (xm_y 20) (xm_b 20) (xm_L 20) (xm_r 20) ∈ xG ∧ Cond.instanceMethod (xm_y 20) ∈ xG ∧ Cond.selects (xm_o 20) (xm_y 20) (xm_y 20) ∈ xG := ⟨x_inG (List.mem_of_getElem? (i := 225) (by decide +kernel)) rfl, ⟨x_inG (List.mem_of_getElem? (i := 224) (by decide +kernel)) rfl, x_inG (List.mem_of_getElem? (i := 6) (by decide +kernel)) rfl⟩⟩
theorem x_me_21 : Cond.code (xm_y 21) (xm_b 21) (xm_L 21) (xm_r 21) ∈ xG ∧ Cond.instanceMethod (xm_y 21) ∈ xG ∧ Cond.selects (xm_o 21) (xm_y 21) (xm_y 21) ∈ xG := ⟨x_inG (List.mem_of_getElem? (i := 249) (by decide +kernel)) rfl, ⟨x_inG (List.mem_of_getElem? (i := 248) (by decide +kernel)) rfl, x_inG (List.mem_of_getElem? (i := 8) (by decide +kernel)) rfl⟩⟩
theorem x_me_22 : Cond.code (xm_y 22) (xm_b 22) (xm_L 22) (xm_r 22) ∈ xG ∧ Cond.instanceMethod (xm_y 22) ∈ xG ∧ Cond.selects (xm_o 22) (xm_y 22) (xm_y 22) ∈ xG := ⟨x_inG (List.mem_of_getElem? (i := 245) (by decide +kernel)) rfl, ⟨x_inG (List.mem_of_getElem? (i := 244) (by decide +kernel)) rfl, x_inG (List.mem_of_getElem? (i := 7) (by decide +kernel)) rfl⟩⟩
theorem x_me_23 : Cond.code (xm_y 23) (xm_b 23) (xm_L 23) (xm_r 23) ∈ xG ∧ Cond.instanceMethod (xm_y 23) ∈ xG ∧ Cond.selects (xm_o 23) (xm_y 23) (xm_y 23) ∈ xG := ⟨x_inG (List.mem_of_getElem? (i := 253) (by decide +kernel)) rfl, ⟨x_inG (List.mem_of_getElem? (i := 252) (by decide +kernel)) rfl, x_inG (List.mem_of_getElem? (i := 9) (by decide +kernel)) rfl⟩⟩
theorem x_me_24 : Cond.code (xm_y 24) (xm_b 24) (xm_L 24) (xm_r 24) ∈ xG ∧ Cond.instanceMethod (xm_y 24) ∈ xG := ⟨x_inG (List.mem_of_getElem? (i := 105) (by decide +kernel)) rfl, x_inG (List.mem_of_getElem? (i := 104) (by decide +kernel)) rfl⟩
theorem x_me_25 : Cond.code (xm_y 25) (xm_b 25) (xm_L 25) (xm_r 25) ∈ xG ∧ Cond.instanceMethod (xm_y 25) ∈ xG ∧ Cond.selects (xm_o 25) (xm_y 25) (xm_y 25) ∈ xG := ⟨x_inG (List.mem_of_getElem? (i := 273) (by decide +kernel)) rfl, ⟨x_inG (List.mem_of_getElem? (i := 271) (by decide +kernel)) rfl, x_inG (List.mem_of_getElem? (i := 272) (by decide +kernel)) rfl⟩⟩
theorem x_me_26 : Cond.code (xm_y 26) (xm_b 26) (xm_L 26) (xm_r 26) ∈ xG ∧ Cond.instanceMethod (xm_y 26) ∈ xG ∧ Cond.selects (xm_o 26) (xm_y 26) (xm_y 26) ∈ xG := ⟨x_inG (List.mem_of_getElem? (i := 277) (by decide +kernel)) rfl, ⟨x_inG (List.mem_of_getElem? (i := 275) (by decide +kernel)) rfl, x_inG (List.mem_of_getElem? (i := 276) (by decide +kernel)) rfl⟩⟩
theorem x_me_27 : Cond.code (xm_y 27) (xm_b 27) (xm_L 27) (xm_r 27) ∈ xG ∧ Cond.instanceMethod (xm_y 27) ∈ xG ∧ Cond.selects (xm_o 27) (xm_y 27) (xm_y 27) ∈ xG := ⟨x_inG (List.mem_of_getElem? (i := 334) (by decide +kernel)) rfl, ⟨x_inG (List.mem_of_getElem? (i := 332) (by decide +kernel)) rfl, x_inG (List.mem_of_getElem? (i := 333) (by decide +kernel)) rfl⟩⟩
theorem x_me_28 : Cond.code (xm_y 28) (xm_b 28) (xm_L 28) (xm_r 28) ∈ xG ∧ Cond.instanceMethod (xm_y 28) ∈ xG ∧ Cond.selects (xm_o 28) (xm_y 28) (xm_y 28) ∈ xG := ⟨x_inG (List.mem_of_getElem? (i := 396) (by decide +kernel)) rfl, ⟨x_inG (List.mem_of_getElem? (i := 394) (by decide +kernel)) rfl, x_inG (List.mem_of_getElem? (i := 395) (by decide +kernel)) rfl⟩⟩
theorem x_me_29 : Cond.code (xm_y 29) (xm_b 29) (xm_L 29) (xm_r 29) ∈ xG ∧ Cond.instanceMethod (xm_y 29) ∈ xG := ⟨x_inG (List.mem_of_getElem? (i := 62) (by decide +kernel)) rfl, x_inG (List.mem_of_getElem? (i := 61) (by decide +kernel)) rfl⟩
theorem x_me_30 : Cond.code (xm_y 30) (xm_b 30) (xm_L 30) (xm_r 30) ∈ xG ∧ Cond.instanceMethod (xm_y 30) ∈ xG ∧ Cond.selects (xm_o 30) (xm_y 30) (xm_y 30) ∈ xG := ⟨x_inG (List.mem_of_getElem? (i := 322) (by decide +kernel)) rfl, ⟨x_inG (List.mem_of_getElem? (i := 320) (by decide +kernel)) rfl, x_inG (List.mem_of_getElem? (i := 321) (by decide +kernel)) rfl⟩⟩
theorem x_me_31 : Cond.code (xm_y 31) (xm_b 31) (xm_L 31) (xm_r 31) ∈ xG ∧ Cond.instanceMethod (xm_y 31) ∈ xG ∧ Cond.selects (xm_o 31) (xm_y 31) (xm_y 31) ∈ xG := ⟨x_inG (List.mem_of_getElem? (i := 221) (by decide +kernel)) rfl, ⟨x_inG (List.mem_of_getElem? (i := 220) (by decide +kernel)) rfl, x_inG (List.mem_of_getElem? (i := 5) (by decide +kernel)) rfl⟩⟩
theorem x_me_32 : Cond.code (xm_y 32) (xm_b 32) (xm_L 32) (xm_r 32) ∈ xG ∧ Cond.instanceMethod (xm_y 32) ∈ xG ∧ Cond.selects (xm_o 32) (xm_y 32) (xm_y 32) ∈ xG := ⟨x_inG (List.mem_of_getElem? (i := 217) (by decide +kernel)) rfl, ⟨x_inG (List.mem_of_getElem? (i := 215) (by decide +kernel)) rfl, x_inG (List.mem_of_getElem? (i := 216) (by decide +kernel)) rfl⟩⟩
theorem x_me_33 : Cond.code (xm_y 33) (xm_b 33) (xm_L 33) (xm_r 33) ∈ xG ∧ Cond.instanceMethod (xm_y 33) ∈ xG ∧ Cond.selects (xm_o 33) (xm_y 33) (xm_y 33) ∈ xG := ⟨x_inG (List.mem_of_getElem? (i := 285) (by decide +kernel)) rfl, ⟨x_inG (List.mem_of_getElem? (i := 283) (by decide +kernel)) rfl, x_inG (List.mem_of_getElem? (i := 284) (by decide +kernel)) rfl⟩⟩
theorem x_me_34 : Cond.code (xm_y 34) (xm_b 34) (xm_L 34) (xm_r 34) ∈ xG ∧ Cond.instanceMethod (xm_y 34) ∈ xG ∧ Cond.selects (xm_o 34) (xm_y 34) (xm_y 34) ∈ xG := ⟨x_inG (List.mem_of_getElem? (i := 326) (by decide +kernel)) rfl, ⟨x_inG (List.mem_of_getElem? (i := 324) (by decide +kernel)) rfl, x_inG (List.mem_of_getElem? (i := 325) (by decide +kernel)) rfl⟩⟩
theorem x_me_35 : Cond.code (xm_y 35) (xm_b 35) (xm_L 35) (xm_r 35) ∈ xG ∧ Cond.instanceMethod (xm_y 35) ∈ xG ∧ Cond.selects (xm_o 35) (xm_y 35) (xm_y 35) ∈ xG := ⟨x_inG (List.mem_of_getElem? (i := 330) (by decide +kernel)) rfl, ⟨x_inG (List.mem_of_getElem? (i := 328) (by decide +kernel)) rfl, x_inG (List.mem_of_getElem? (i := 329) (by decide +kernel)) rfl⟩⟩
theorem x_me_36 : Cond.code (xm_y 36) (xm_b 36) (xm_L 36) (xm_r 36) ∈ xG ∧ Cond.instanceMethod (xm_y 36) ∈ xG ∧ Cond.selects (xm_o 36) (xm_y 36) (xm_y 36) ∈ xG := ⟨x_inG (List.mem_of_getElem? (i := 289) (by decide +kernel)) rfl, ⟨x_inG (List.mem_of_getElem? (i := 287) (by decide +kernel)) rfl, x_inG (List.mem_of_getElem? (i := 288) (by decide +kernel)) rfl⟩⟩
theorem x_me_37 : Cond.code (xm_y 37) (xm_b 37) (xm_L 37) (xm_r 37) ∈ xG ∧ Cond.instanceMethod (xm_y 37) ∈ xG ∧ Cond.selects (xm_o 37) (xm_y 37) (xm_y 37) ∈ xG := ⟨x_inG (List.mem_of_getElem? (i := 293) (by decide +kernel)) rfl, ⟨x_inG (List.mem_of_getElem? (i := 291) (by decide +kernel)) rfl, x_inG (List.mem_of_getElem? (i := 292) (by decide +kernel)) rfl⟩⟩
theorem x_me_38 : Cond.code (xm_y 38) (xm_b 38) (xm_L 38) (xm_r 38) ∈ xG ∧ Cond.instanceMethod (xm_y 38) ∈ xG ∧ Cond.selects (xm_o 38) (xm_y 38) (xm_y 38) ∈ xG := ⟨x_inG (List.mem_of_getElem? (i := 314) (by decide +kernel)) rfl, ⟨x_inG (List.mem_of_getElem? (i := 312) (by decide +kernel)) rfl, x_inG (List.mem_of_getElem? (i := 313) (by decide +kernel)) rfl⟩⟩
theorem x_me_39 : Cond.code (xm_y 39) (xm_b 39) (xm_L 39) (xm_r 39) ∈ xG ∧ Cond.instanceMethod (xm_y 39) ∈ xG ∧ Cond.selects (xm_o 39) (xm_y 39) (xm_y 39) ∈ xG := ⟨x_inG (List.mem_of_getElem? (i := 343) (by decide +kernel)) rfl, ⟨x_inG (List.mem_of_getElem? (i := 341) (by decide +kernel)) rfl, x_inG (List.mem_of_getElem? (i := 342) (by decide +kernel)) rfl⟩⟩
theorem x_me_40 : Cond.code (xm_y 40) (xm_b 40) (xm_L 40) (xm_r 40) ∈ xG ∧ Cond.instanceMethod (xm_y 40) ∈ xG ∧ Cond.selects (xm_o 40) (xm_y 40) (xm_y 40) ∈ xG := ⟨x_inG (List.mem_of_getElem? (i := 241) (by decide +kernel)) rfl, ⟨x_inG (List.mem_of_getElem? (i := 239) (by decide +kernel)) rfl, x_inG (List.mem_of_getElem? (i := 240) (by decide +kernel)) rfl⟩⟩
theorem x_me_41 : Cond.code (xm_y 41) (xm_b 41) (xm_L 41) (xm_r 41) ∈ xG ∧ Cond.instanceMethod (xm_y 41) ∈ xG ∧ Cond.selects (xm_o 41) (xm_y 41) (xm_y 41) ∈ xG := ⟨x_inG (List.mem_of_getElem? (i := 470) (by decide +kernel)) rfl, ⟨x_inG (List.mem_of_getElem? (i := 468) (by decide +kernel)) rfl, x_inG (List.mem_of_getElem? (i := 469) (by decide +kernel)) rfl⟩⟩
theorem x_me_42 : Cond.code (xm_y 42) (xm_b 42) (xm_L 42) (xm_r 42) ∈ xG ∧ Cond.instanceMethod (xm_y 42) ∈ xG := ⟨x_inG (List.mem_of_getElem? (i := 86) (by decide +kernel)) rfl, x_inG (List.mem_of_getElem? (i := 85) (by decide +kernel)) rfl⟩
theorem x_me_43 : Cond.code (xm_y 43) (xm_b 43) (xm_L 43) (xm_r 43) ∈ xG ∧ Cond.instanceMethod (xm_y 43) ∈ xG ∧ Cond.selects (xm_o 43) (xm_y 43) (xm_y 43) ∈ xG := ⟨x_inG (List.mem_of_getElem? (i := 302) (by decide +kernel)) rfl, ⟨x_inG (List.mem_of_getElem? (i := 300) (by decide +kernel)) rfl, x_inG (List.mem_of_getElem? (i := 301) (by decide +kernel)) rfl⟩⟩
theorem x_me_44 : Cond.code (xm_y 44) (xm_b 44) (xm_L 44) (xm_r 44) ∈ xG ∧ Cond.instanceMethod (xm_y 44) ∈ xG ∧ Cond.selects (xm_o 44) (xm_y 44) (xm_y 44) ∈ xG := ⟨x_inG (List.mem_of_getElem? (i := 306) (by decide +kernel)) rfl, ⟨x_inG (List.mem_of_getElem? (i := 304) (by decide +kernel)) rfl, x_inG (List.mem_of_getElem? (i := 305) (by decide +kernel)) rfl⟩⟩
theorem x_me_45 : Cond.code (xm_y 45) (xm_b 45) (xm_L 45) (xm_r 45) ∈ xG ∧ Cond.instanceMethod (xm_y 45) ∈ xG ∧ Cond.selects (xm_o 45) (xm_y 45) (xm_y 45) ∈ xG := ⟨x_inG (List.mem_of_getElem? (i := 237) (by decide +kernel)) rfl, ⟨x_inG (List.mem_of_getElem? (i := 235) (by decide +kernel)) rfl, x_inG (List.mem_of_getElem? (i := 236) (by decide +kernel)) rfl⟩⟩
theorem x_me_46 : Cond.code (xm_y 46) (xm_b 46) (xm_L 46) (xm_r 46) ∈ xG ∧ Cond.instanceMethod (xm_y 46) ∈ xG ∧ Cond.selects (xm_o 46) (xm_y 46) (xm_y 46) ∈ xG := ⟨x_inG (List.mem_of_getElem? (i := 233) (by decide +kernel)) rfl, ⟨x_inG (List.mem_of_getElem? (i := 231) (by decide +kernel)) rfl, x_inG (List.mem_of_getElem? (i := 232) (by decide +kernel)) rfl⟩⟩
theorem x_me_47 : Cond.code (xm_y 47) (xm_b 47) (xm_L 47) (xm_r 47) ∈ xG ∧ Cond.instanceMethod (xm_y 47) ∈ xG ∧ Cond.selects (xm_o 47) (xm_y 47) (xm_y 47) ∈ xG := ⟨x_inG (List.mem_of_getElem? (i := 261) (by decide +kernel)) rfl, ⟨x_inG (List.mem_of_getElem? (i := 259) (by decide +kernel)) rfl, x_inG (List.mem_of_getElem? (i := 260) (by decide +kernel)) rfl⟩⟩
theorem x_me_48 : Cond.code (xm_y 48) (xm_b 48) (xm_L 48) (xm_r 48) ∈ xG ∧ Cond.instanceMethod (xm_y 48) ∈ xG ∧ Cond.selects (xm_o 48) (xm_y 48) (xm_y 48) ∈ xG := ⟨x_inG (List.mem_of_getElem? (i := 269) (by decide +kernel)) rfl, ⟨x_inG (List.mem_of_getElem? (i := 267) (by decide +kernel)) rfl, x_inG (List.mem_of_getElem? (i := 268) (by decide +kernel)) rfl⟩⟩
theorem x_me_49 : Cond.code (xm_y 49) (xm_b 49) (xm_L 49) (xm_r 49) ∈ xG ∧ Cond.instanceMethod (xm_y 49) ∈ xG ∧ Cond.selects (xm_o 49) (xm_y 49) (xm_y 49) ∈ xG := ⟨x_inG (List.mem_of_getElem? (i := 281) (by decide +kernel)) rfl, ⟨x_inG (List.mem_of_getElem? (i := 279) (by decide +kernel)) rfl, x_inG (List.mem_of_getElem? (i := 280) (by decide +kernel)) rfl⟩⟩
theorem x_me_50 : Cond.code (xm_y 50) (xm_b 50) (xm_L 50) (xm_r 50) ∈ xG ∧ Cond.instanceMethod (xm_y 50) ∈ xG := ⟨x_inG (List.mem_of_getElem? (i := 48) (by decide +kernel)) rfl, x_inG (List.mem_of_getElem? (i := 47) (by decide +kernel)) rfl⟩
theorem x_me_51 : Cond.code (xm_y 51) (xm_b 51) (xm_L 51) (xm_r 51) ∈ xG ∧ Cond.instanceMethod (xm_y 51) ∈ xG ∧ Cond.selects (xm_o 51) (xm_y 51) (xm_y 51) ∈ xG := ⟨x_inG (List.mem_of_getElem? (i := 164) (by decide +kernel)) rfl, ⟨x_inG (List.mem_of_getElem? (i := 162) (by decide +kernel)) rfl, x_inG (List.mem_of_getElem? (i := 163) (by decide +kernel)) rfl⟩⟩
theorem x_me_52 : Cond.code (xm_y 52) (xm_b 52) (xm_L 52) (xm_r 52) ∈ xG ∧ Cond.instanceMethod (xm_y 52) ∈ xG ∧ Cond.selects (xm_o 52) (xm_y 52) (xm_y 52) ∈ xG := ⟨x_inG (List.mem_of_getElem? (i := 348) (by decide +kernel)) rfl, ⟨x_inG (List.mem_of_getElem? (i := 346) (by decide +kernel)) rfl, x_inG (List.mem_of_getElem? (i := 347) (by decide +kernel)) rfl⟩⟩
theorem x_me_53 : Cond.code (xm_y 53) (xm_b 53) (xm_L 53) (xm_r 53) ∈ xG ∧ Cond.instanceMethod (xm_y 53) ∈ xG ∧ Cond.selects (xm_o 53) (xm_y 53) (xm_y 53) ∈ xG := ⟨x_inG (List.mem_of_getElem? (i := 360) (by decide +kernel)) rfl, ⟨x_inG (List.mem_of_getElem? (i := 358) (by decide +kernel)) rfl, x_inG (List.mem_of_getElem? (i := 359) (by decide +kernel)) rfl⟩⟩
theorem x_me_54 : Cond.code (xm_y 54) (xm_b 54) (xm_L 54) (xm_r 54) ∈ xG ∧ Cond.instanceMethod (xm_y 54) ∈ xG ∧ Cond.selects (xm_o 54) (xm_y 54) (xm_y 54) ∈ xG := ⟨x_inG (List.mem_of_getElem? (i := 364) (by decide +kernel)) rfl, ⟨x_inG (List.mem_of_getElem? (i := 362) (by decide +kernel)) rfl, x_inG (List.mem_of_getElem? (i := 363) (by decide +kernel)) rfl⟩⟩
theorem x_me_55 : Cond.code (xm_y 55) (xm_b 55) (xm_L 55) (xm_r 55) ∈ xG ∧ Cond.instanceMethod (xm_y 55) ∈ xG ∧ Cond.selects (xm_o 55) (xm_y 55) (xm_y 55) ∈ xG := ⟨x_inG (List.mem_of_getElem? (i := 368) (by decide +kernel)) rfl, ⟨x_inG (List.mem_of_getElem? (i := 366) (by decide +kernel)) rfl, x_inG (List.mem_of_getElem? (i := 367) (by decide +kernel)) rfl⟩⟩
theorem x_me_56 : Cond.code (xm_y 56) (xm_b 56) (xm_L 56) (xm_r 56) ∈ xG ∧ Cond.instanceMethod (xm_y 56) ∈ xG ∧ Cond.selects (xm_o 56) (xm_y 56) (xm_y 56) ∈ xG := ⟨x_inG (List.mem_of_getElem? (i := 372) (by decide +kernel)) rfl, ⟨x_inG (List.mem_of_getElem? (i := 370) (by decide +kernel)) rfl, x_inG (List.mem_of_getElem? (i := 371) (by decide +kernel)) rfl⟩⟩
theorem x_me_57 : Cond.code (xm_y 57) (xm_b 57) (xm_L 57) (xm_r 57) ∈ xG ∧ Cond.instanceMethod (xm_y 57) ∈ xG ∧ Cond.selects (xm_o 57) (xm_y 57) (xm_y 57) ∈ xG := ⟨x_inG (List.mem_of_getElem? (i := 377) (by decide +kernel)) rfl, ⟨x_inG (List.mem_of_getElem? (i := 375) (by decide +kernel)) rfl, x_inG (List.mem_of_getElem? (i := 376) (by decide +kernel)) rfl⟩⟩
theorem x_me_58 : Cond.code (xm_y 58) (xm_b 58) (xm_L 58) (xm_r 58) ∈ xG ∧ Cond.instanceMethod (xm_y 58) ∈ xG ∧ Cond.selects (xm_o 58) (xm_y 58) (xm_y 58) ∈ xG := ⟨x_inG (List.mem_of_getElem? (i := 381) (by decide +kernel)) rfl, ⟨x_inG (List.mem_of_getElem? (i := 379) (by decide +kernel)) rfl, x_inG (List.mem_of_getElem? (i := 380) (by decide +kernel)) rfl⟩⟩
theorem x_me_59 : Cond.code (xm_y 59) (xm_b 59) (xm_L 59) (xm_r 59) ∈ xG ∧ Cond.instanceMethod (xm_y 59) ∈ xG ∧ Cond.selects (xm_o 59) (xm_y 59) (xm_y 59) ∈ xG := ⟨x_inG (List.mem_of_getElem? (i := 388) (by decide +kernel)) rfl, ⟨x_inG (List.mem_of_getElem? (i := 386) (by decide +kernel)) rfl, x_inG (List.mem_of_getElem? (i := 387) (by decide +kernel)) rfl⟩⟩
theorem x_me_60 : Cond.code (xm_y 60) (xm_b 60) (xm_L 60) (xm_r 60) ∈ xG ∧ Cond.instanceMethod (xm_y 60) ∈ xG ∧ Cond.selects (xm_o 60) (xm_y 60) (xm_y 60) ∈ xG := ⟨x_inG (List.mem_of_getElem? (i := 392) (by decide +kernel)) rfl, ⟨x_inG (List.mem_of_getElem? (i := 390) (by decide +kernel)) rfl, x_inG (List.mem_of_getElem? (i := 391) (by decide +kernel)) rfl⟩⟩
theorem x_me_61 : Cond.code (xm_y 61) (xm_b 61) (xm_L 61) (xm_r 61) ∈ xG ∧ Cond.instanceMethod (xm_y 61) ∈ xG ∧ Cond.selects (xm_o 61) (xm_y 61) (xm_y 61) ∈ xG := ⟨x_inG (List.mem_of_getElem? (i := 400) (by decide +kernel)) rfl, ⟨x_inG (List.mem_of_getElem? (i := 398) (by decide +kernel)) rfl, x_inG (List.mem_of_getElem? (i := 399) (by decide +kernel)) rfl⟩⟩
theorem x_me_62 : Cond.code (xm_y 62) (xm_b 62) (xm_L 62) (xm_r 62) ∈ xG ∧ Cond.instanceMethod (xm_y 62) ∈ xG ∧ Cond.selects (xm_o 62) (xm_y 62) (xm_y 62) ∈ xG := ⟨x_inG (List.mem_of_getElem? (i := 404) (by decide +kernel)) rfl, ⟨x_inG (List.mem_of_getElem? (i := 402) (by decide +kernel)) rfl, x_inG (List.mem_of_getElem? (i := 403) (by decide +kernel)) rfl⟩⟩
theorem x_me_63 : Cond.code (xm_y 63) (xm_b 63) (xm_L 63) (xm_r 63) ∈ xG ∧ Cond.instanceMethod (xm_y 63) ∈ xG ∧ Cond.selects (xm_o 63) (xm_y 63) (xm_y 63) ∈ xG := ⟨x_inG (List.mem_of_getElem? (i := 413) (by decide +kernel)) rfl, ⟨x_inG (List.mem_of_getElem? (i := 411) (by decide +kernel)) rfl, x_inG (List.mem_of_getElem? (i := 412) (by decide +kernel)) rfl⟩⟩
theorem x_me_64 : Cond.code (xm_y 64) (xm_b 64) (xm_L 64) (xm_r 64) ∈ xG ∧ Cond.instanceMethod (xm_y 64) ∈ xG ∧ Cond.selects (xm_o 64) (xm_y 64) (xm_y 64) ∈ xG := ⟨x_inG (List.mem_of_getElem? (i := 421) (by decide +kernel)) rfl, ⟨x_inG (List.mem_of_getElem? (i := 419) (by decide +kernel)) rfl, x_inG (List.mem_of_getElem? (i := 420) (by decide +kernel)) rfl⟩⟩
theorem x_me_65 : Cond.code (xm_y 65) (xm_b 65) (xm_L 65) (xm_r 65) ∈ xG ∧ Cond.instanceMethod (xm_y 65) ∈ xG ∧ Cond.selects (xm_o 65) (xm_y 65) (xm_y 65) ∈ xG := ⟨x_inG (List.mem_of_getElem? (i := 429) (by decide +kernel)) rfl, ⟨x_inG (List.mem_of_getElem? (i := 427) (by decide +kernel)) rfl, x_inG (List.mem_of_getElem? (i := 428) (by decide +kernel)) rfl⟩⟩
theorem x_me_66 : Cond.code (xm_y 66) (xm_b 66) (xm_L 66) (xm_r 66) ∈ xG ∧ Cond.instanceMethod (xm_y 66) ∈ xG ∧ Cond.selects (xm_o 66) (xm_y 66) (xm_y 66) ∈ xG := ⟨x_inG (List.mem_of_getElem? (i := 446) (by decide +kernel)) rfl, ⟨x_inG (List.mem_of_getElem? (i := 444) (by decide +kernel)) rfl, x_inG (List.mem_of_getElem? (i := 445) (by decide +kernel)) rfl⟩⟩
theorem x_me_67 : Cond.code (xm_y 67) (xm_b 67) (xm_L 67) (xm_r 67) ∈ xG ∧ Cond.instanceMethod (xm_y 67) ∈ xG ∧ Cond.selects (xm_o 67) (xm_y 67) (xm_y 67) ∈ xG := ⟨x_inG (List.mem_of_getElem? (i := 479) (by decide +kernel)) rfl, ⟨x_inG (List.mem_of_getElem? (i := 477) (by decide +kernel)) rfl, x_inG (List.mem_of_getElem? (i := 478) (by decide +kernel)) rfl⟩⟩
theorem x_me_68 : Cond.code (xm_y 68) (xm_b 68) (xm_L 68) (xm_r 68) ∈ xG ∧ Cond.instanceMethod (xm_y 68) ∈ xG ∧ Cond.selects (xm_o 68) (xm_y 68) (xm_y 68) ∈ xG := ⟨x_inG (List.mem_of_getElem? (i := 483) (by decide +kernel)) rfl, ⟨x_inG (List.mem_of_getElem? (i := 481) (by decide +kernel)) rfl, x_inG (List.mem_of_getElem? (i := 482) (by decide +kernel)) rfl⟩⟩
theorem x_me_69 : Cond.code (xm_y 69) (xm_b 69) (xm_L 69) (xm_r 69) ∈ xG ∧ Cond.static (xm_y 69) ∈ xG := ⟨x_inG (List.mem_of_getElem? (i := 384) (by decide +kernel)) rfl, x_inG (List.mem_of_getElem? (i := 383) (by decide +kernel)) rfl⟩
theorem x_me_70 : Cond.code (xm_y 70) (xm_b 70) (xm_L 70) (xm_r 70) ∈ xG ∧ Cond.static (xm_y 70) ∈ xG := ⟨x_inG (List.mem_of_getElem? (i := 173) (by decide +kernel)) rfl, x_inG (List.mem_of_getElem? (i := 172) (by decide +kernel)) rfl⟩
theorem x_me_71 : Cond.code (xm_y 71) (xm_b 71) (xm_L 71) (xm_r 71) ∈ xG ∧ Cond.static (xm_y 71) ∈ xG := ⟨x_inG (List.mem_of_getElem? (i := 208) (by decide +kernel)) rfl, x_inG (List.mem_of_getElem? (i := 207) (by decide +kernel)) rfl⟩
theorem x_me_72 : Cond.code (xm_y 72) (xm_b 72) (xm_L 72) (xm_r 72) ∈ xG ∧ Cond.static (xm_y 72) ∈ xG := ⟨x_inG (List.mem_of_getElem? (i := 170) (by decide +kernel)) rfl, x_inG (List.mem_of_getElem? (i := 169) (by decide +kernel)) rfl⟩
theorem x_me_73 : Cond.code (xm_y 73) (xm_b 73) (xm_L 73) (xm_r 73) ∈ xG ∧ Cond.static (xm_y 73) ∈ xG := ⟨x_inG (List.mem_of_getElem? (i := 167) (by decide +kernel)) rfl, x_inG (List.mem_of_getElem? (i := 166) (by decide +kernel)) rfl⟩
theorem x_me_74 : Cond.code (xm_y 74) (xm_b 74) (xm_L 74) (xm_r 74) ∈ xG ∧ Cond.instanceMethod (xm_y 74) ∈ xG ∧ Cond.selects (xm_o 74) (xm_y 74) (xm_y 74) ∈ xG := ⟨x_inG (List.mem_of_getElem? (i := 356) (by decide +kernel)) rfl, ⟨x_inG (List.mem_of_getElem? (i := 355) (by decide +kernel)) rfl, x_inG (List.mem_of_getElem? (i := 15) (by decide +kernel)) rfl⟩⟩
theorem x_me_75 : Cond.code (xm_y 75) (xm_b 75) (xm_L 75) (xm_r 75) ∈ xG ∧ Cond.instanceMethod (xm_y 75) ∈ xG ∧ Cond.selects (xm_o 75) (xm_y 75) (xm_y 75) ∈ xG := ⟨x_inG (List.mem_of_getElem? (i := 352) (by decide +kernel)) rfl, ⟨x_inG (List.mem_of_getElem? (i := 351) (by decide +kernel)) rfl, x_inG (List.mem_of_getElem? (i := 14) (by decide +kernel)) rfl⟩⟩
theorem x_me_76 : Cond.code (xm_y 76) (xm_b 76) (xm_L 76) (xm_r 76) ∈ xG ∧ Cond.instanceMethod (xm_y 76) ∈ xG ∧ Cond.selects (xm_o 76) (xm_y 76) (xm_y 76) ∈ xG := ⟨x_inG (List.mem_of_getElem? (i := 417) (by decide +kernel)) rfl, ⟨x_inG (List.mem_of_getElem? (i := 416) (by decide +kernel)) rfl, x_inG (List.mem_of_getElem? (i := 16) (by decide +kernel)) rfl⟩⟩
theorem x_me_77 : Cond.code (xm_y 77) (xm_b 77) (xm_L 77) (xm_r 77) ∈ xG ∧ Cond.instanceMethod (xm_y 77) ∈ xG ∧ Cond.selects (xm_o 77) (xm_y 77) (xm_y 77) ∈ xG := ⟨x_inG (List.mem_of_getElem? (i := 177) (by decide +kernel)) rfl, ⟨x_inG (List.mem_of_getElem? (i := 176) (by decide +kernel)) rfl, x_inG (List.mem_of_getElem? (i := 0) (by decide +kernel)) rfl⟩⟩
theorem x_me_78 : Cond.code (xm_y 78) (xm_b 78) (xm_L 78) (xm_r 78) ∈ xG ∧ Cond.instanceMethod (xm_y 78) ∈ xG ∧ Cond.selects (xm_o 78) (xm_y 78) (xm_y 78) ∈ xG := ⟨x_inG (List.mem_of_getElem? (i := 257) (by decide +kernel)) rfl, ⟨x_inG (List.mem_of_getElem? (i := 256) (by decide +kernel)) rfl, x_inG (List.mem_of_getElem? (i := 10) (by decide +kernel)) rfl⟩⟩
theorem x_me_79 : Cond.code (xm_y 79) (xm_b 79) (xm_L 79) (xm_r 79) ∈ xG ∧ Cond.instanceMethod (xm_y 79) ∈ xG ∧ Cond.selects (xm_o 79) (xm_y 79) (xm_y 79) ∈ xG := ⟨x_inG (List.mem_of_getElem? (i := 265) (by decide +kernel)) rfl, ⟨x_inG (List.mem_of_getElem? (i := 264) (by decide +kernel)) rfl, x_inG (List.mem_of_getElem? (i := 11) (by decide +kernel)) rfl⟩⟩
theorem x_me_80 : Cond.code (xm_y 80) (xm_b 80) (xm_L 80) (xm_r 80) ∈ xG ∧ Cond.instanceMethod (xm_y 80) ∈ xG ∧ Cond.selects (xm_o 80) (xm_y 80) (xm_y 80) ∈ xG := ⟨x_inG (List.mem_of_getElem? (i := 475) (by decide +kernel)) rfl, ⟨x_inG (List.mem_of_getElem? (i := 474) (by decide +kernel)) rfl, x_inG (List.mem_of_getElem? (i := 17) (by decide +kernel)) rfl⟩⟩
theorem x_me_81 : Cond.code (xm_y 81) (xm_b 81) (xm_L 81) (xm_r 81) ∈ xG ∧ Cond.instanceMethod (xm_y 81) ∈ xG ∧ Cond.selects (xm_o 81) (xm_y 81) (xm_y 81) ∈ xG := ⟨x_inG (List.mem_of_getElem? (i := 298) (by decide +kernel)) rfl, ⟨x_inG (List.mem_of_getElem? (i := 297) (by decide +kernel)) rfl, x_inG (List.mem_of_getElem? (i := 12) (by decide +kernel)) rfl⟩⟩
theorem x_me_82 : Cond.code (xm_y 82) (xm_b 82) (xm_L 82) (xm_r 82) ∈ xG ∧ Cond.instanceMethod (xm_y 82) ∈ xG ∧ Cond.selects (xm_o 82) (xm_y 82) (xm_y 82) ∈ xG := ⟨x_inG (List.mem_of_getElem? (i := 318) (by decide +kernel)) rfl, ⟨x_inG (List.mem_of_getElem? (i := 317) (by decide +kernel)) rfl, x_inG (List.mem_of_getElem? (i := 13) (by decide +kernel)) rfl⟩⟩
theorem x_me_83 : Cond.code (xm_y 83) (xm_b 83) (xm_L 83) (xm_r 83) ∈ xG ∧ Cond.instanceMethod (xm_y 83) ∈ xG ∧ Cond.selects (xm_o 83) (xm_y 83) (xm_y 83) ∈ xG := ⟨x_inG (List.mem_of_getElem? (i := 489) (by decide +kernel)) rfl, ⟨x_inG (List.mem_of_getElem? (i := 488) (by decide +kernel)) rfl, x_inG (List.mem_of_getElem? (i := 18) (by decide +kernel)) rfl⟩⟩
theorem x_me_84 : Cond.code (xm_y 84) (xm_b 84) (xm_L 84) (xm_r 84) ∈ xG ∧ Cond.instanceMethod (xm_y 84) ∈ xG ∧ Cond.selects (xm_o 84) (xm_y 84) (xm_y 84) ∈ xG := ⟨x_inG (List.mem_of_getElem? (i := 494) (by decide +kernel)) rfl, ⟨x_inG (List.mem_of_getElem? (i := 493) (by decide +kernel)) rfl, x_inG (List.mem_of_getElem? (i := 19) (by decide +kernel)) rfl⟩⟩
theorem x_me_85 : Cond.code (xm_y 85) (xm_b 85) (xm_L 85) (xm_r 85) ∈ xG ∧ Cond.instanceMethod (xm_y 85) ∈ xG := ⟨x_inG (List.mem_of_getElem? (i := 505) (by decide +kernel)) rfl, x_inG (List.mem_of_getElem? (i := 504) (by decide +kernel)) rfl⟩
theorem x_me_86 : Cond.code (xm_y 86) (xm_b 86) (xm_L 86) (xm_r 86) ∈ xG ∧ Cond.static (xm_y 86) ∈ xG := ⟨x_inG (List.mem_of_getElem? (i := 574) (by decide +kernel)) rfl, x_inG (List.mem_of_getElem? (i := 573) (by decide +kernel)) rfl⟩
theorem x_me_87 : Cond.code (xm_y 87) (xm_b 87) (xm_L 87) (xm_r 87) ∈ xG ∧ Cond.static (xm_y 87) ∈ xG := ⟨x_inG (List.mem_of_getElem? (i := 571) (by decide +kernel)) rfl, x_inG (List.mem_of_getElem? (i := 570) (by decide +kernel)) rfl⟩
theorem x_me_88 : Cond.code (xm_y 88) (xm_b 88) (xm_L 88) (xm_r 88) ∈ xG ∧ Cond.static (xm_y 88) ∈ xG := ⟨x_inG (List.mem_of_getElem? (i := 585) (by decide +kernel)) rfl, x_inG (List.mem_of_getElem? (i := 584) (by decide +kernel)) rfl⟩
theorem x_me_89 : Cond.code (xm_y 89) (xm_b 89) (xm_L 89) (xm_r 89) ∈ xG ∧ Cond.instanceMethod (xm_y 89) ∈ xG ∧ Cond.selects (xm_o 89) (xm_y 89) (xm_y 89) ∈ xG := ⟨x_inG (List.mem_of_getElem? (i := 613) (by decide +kernel)) rfl, ⟨x_inG (List.mem_of_getElem? (i := 612) (by decide +kernel)) rfl, x_inG (List.mem_of_getElem? (i := 28) (by decide +kernel)) rfl⟩⟩
theorem x_me_90 : Cond.code (xm_y 90) (xm_b 90) (xm_L 90) (xm_r 90) ∈ xG ∧ Cond.instanceMethod (xm_y 90) ∈ xG ∧ Cond.selects (xm_o 90) (xm_y 90) (xm_y 90) ∈ xG := ⟨x_inG (List.mem_of_getElem? (i := 617) (by decide +kernel)) rfl, ⟨x_inG (List.mem_of_getElem? (i := 616) (by decide +kernel)) rfl, x_inG (List.mem_of_getElem? (i := 29) (by decide +kernel)) rfl⟩⟩
theorem x_me_91 : Cond.code (xm_y 91) (xm_b 91) (xm_L 91) (xm_r 91) ∈ xG ∧ Cond.instanceMethod (xm_y 91) ∈ xG ∧ Cond.selects (xm_o 91) (xm_y 91) (xm_y 91) ∈ xG := ⟨x_inG (List.mem_of_getElem? (i := 621) (by decide +kernel)) rfl, ⟨x_inG (List.mem_of_getElem? (i := 620) (by decide +kernel)) rfl, x_inG (List.mem_of_getElem? (i := 30) (by decide +kernel)) rfl⟩⟩
theorem x_me_92 : Cond.code (xm_y 92) (xm_b 92) (xm_L 92) (xm_r 92) ∈ xG ∧ Cond.instanceMethod (xm_y 92) ∈ xG ∧ Cond.selects (xm_o 92) (xm_y 92) (xm_y 92) ∈ xG := ⟨x_inG (List.mem_of_getElem? (i := 609) (by decide +kernel)) rfl, ⟨x_inG (List.mem_of_getElem? (i := 608) (by decide +kernel)) rfl, x_inG (List.mem_of_getElem? (i := 27) (by decide +kernel)) rfl⟩⟩
theorem x_me_93 : Cond.code (xm_y 93) (xm_b 93) (xm_L 93) (xm_r 93) ∈ xG ∧ Cond.instanceMethod (xm_y 93) ∈ xG ∧ Cond.selects (xm_o 93) (xm_y 93) (xm_y 93) ∈ xG := ⟨x_inG (List.mem_of_getElem? (i := 625) (by decide +kernel)) rfl, ⟨x_inG (List.mem_of_getElem? (i := 624) (by decide +kernel)) rfl, x_inG (List.mem_of_getElem? (i := 31) (by decide +kernel)) rfl⟩⟩
theorem x_me_94 : Cond.code (xm_y 94) (xm_b 94) (xm_L 94) (xm_r 94) ∈ xG ∧ Cond.instanceMethod (xm_y 94) ∈ xG ∧ Cond.selects (xm_o 94) (xm_y 94) (xm_y 94) ∈ xG := ⟨x_inG (List.mem_of_getElem? (i := 605) (by decide +kernel)) rfl, ⟨x_inG (List.mem_of_getElem? (i := 604) (by decide +kernel)) rfl, x_inG (List.mem_of_getElem? (i := 26) (by decide +kernel)) rfl⟩⟩
theorem x_me_95 : Cond.code (xm_y 95) (xm_b 95) (xm_L 95) (xm_r 95) ∈ xG ∧ Cond.instanceMethod (xm_y 95) ∈ xG ∧ Cond.selects (xm_o 95) (xm_y 95) (xm_y 95) ∈ xG := ⟨x_inG (List.mem_of_getElem? (i := 593) (by decide +kernel)) rfl, ⟨x_inG (List.mem_of_getElem? (i := 592) (by decide +kernel)) rfl, x_inG (List.mem_of_getElem? (i := 23) (by decide +kernel)) rfl⟩⟩
theorem x_me_96 : Cond.code (xm_y 96) (xm_b 96) (xm_L 96) (xm_r 96) ∈ xG ∧ Cond.instanceMethod (xm_y 96) ∈ xG ∧ Cond.selects (xm_o 96) (xm_y 96) (xm_y 96) ∈ xG := ⟨x_inG (List.mem_of_getElem? (i := 597) (by decide +kernel)) rfl, ⟨x_inG (List.mem_of_getElem? (i := 596) (by decide +kernel)) rfl, x_inG (List.mem_of_getElem? (i := 24) (by decide +kernel)) rfl⟩⟩
theorem x_me_97 : Cond.code (xm_y 97) (xm_b 97) (xm_L 97) (xm_r 97) ∈ xG ∧ Cond.instanceMethod (xm_y 97) ∈ xG ∧ Cond.selects (xm_o 97) (xm_y 97) (xm_y 97) ∈ xG := ⟨x_inG (List.mem_of_getElem? (i := 589) (by decide +kernel)) rfl, ⟨x_inG (List.mem_of_getElem? (i := 588) (by decide +kernel)) rfl, x_inG (List.mem_of_getElem? (i := 22) (by decide +kernel)) rfl⟩⟩
theorem x_me_98 : Cond.code (xm_y 98) (xm_b 98) (xm_L 98) (xm_r 98) ∈ xG ∧ Cond.instanceMethod (xm_y 98) ∈ xG ∧ Cond.selects (xm_o 98) (xm_y 98) (xm_y 98) ∈ xG := ⟨x_inG (List.mem_of_getElem? (i := 582) (by decide +kernel)) rfl, ⟨x_inG (List.mem_of_getElem? (i := 581) (by decide +kernel)) rfl, x_inG (List.mem_of_getElem? (i := 21) (by decide +kernel)) rfl⟩⟩
theorem x_me_99 : Cond.code (xm_y 99) (xm_b 99) (xm_L 99) (xm_r 99) ∈ xG ∧ Cond.instanceMethod (xm_y 99) ∈ xG ∧ Cond.selects (xm_o 99) (xm_y 99) (xm_y 99) ∈ xG := ⟨x_inG (List.mem_of_getElem? (i := 601) (by decide +kernel)) rfl, ⟨x_inG (List.mem_of_getElem? (i := 600) (by decide +kernel)) rfl, x_inG (List.mem_of_getElem? (i := 25) (by decide +kernel)) rfl⟩⟩
theorem x_me_100 : Cond.code (xm_y 100) (xm_b 100) (xm_L 100) (xm_r 100) ∈ xG ∧ Cond.instanceMethod (xm_y 100) ∈ xG ∧ Cond.selects (xm_o 100) (xm_y 100) (xm_y 100) ∈ xG := ⟨x_inG (List.mem_of_getElem? (i := 578) (by decide +kernel)) rfl, ⟨x_inG (List.mem_of_getElem? (i := 577) (by decide +kernel)) rfl, x_inG (List.mem_of_getElem? (i := 20) (by decide +kernel)) rfl⟩⟩
theorem x_me_101 : Cond.code (xm_y 101) (xm_b 101) (xm_L 101) (xm_r 101) ∈ xG ∧ Cond.instanceMethod (xm_y 101) ∈ xG ∧ Cond.selects (xm_o 101) (xm_y 101) (xm_y 101) ∈ xG := ⟨x_inG (List.mem_of_getElem? (i := 568) (by decide +kernel)) rfl, ⟨x_inG (List.mem_of_getElem? (i := 566) (by decide +kernel)) rfl, x_inG (List.mem_of_getElem? (i := 567) (by decide +kernel)) rfl⟩⟩
theorem x_me_102 : Cond.code (xm_y 102) (xm_b 102) (xm_L 102) (xm_r 102) ∈ xG ∧ Cond.instanceMethod (xm_y 102) ∈ xG ∧ Cond.selects (xm_o 102) (xm_y 102) (xm_y 102) ∈ xG := ⟨x_inG (List.mem_of_getElem? (i := 633) (by decide +kernel)) rfl, ⟨x_inG (List.mem_of_getElem? (i := 632) (by decide +kernel)) rfl, x_inG (List.mem_of_getElem? (i := 32) (by decide +kernel)) rfl⟩⟩
theorem x_me_103 : Cond.code (xm_y 103) (xm_b 103) (xm_L 103) (xm_r 103) ∈ xG ∧ Cond.instanceMethod (xm_y 103) ∈ xG ∧ Cond.selects (xm_o 103) (xm_y 103) (xm_y 103) ∈ xG := ⟨x_inG (List.mem_of_getElem? (i := 629) (by decide +kernel)) rfl, ⟨x_inG (List.mem_of_getElem? (i := 627) (by decide +kernel)) rfl, x_inG (List.mem_of_getElem? (i := 628) (by decide +kernel)) rfl⟩⟩
theorem x_me_104 : Cond.code (xm_y 104) (xm_b 104) (xm_L 104) (xm_r 104) ∈ xG ∧ Cond.instanceMethod (xm_y 104) ∈ xG ∧ Cond.selects (xm_o 104) (xm_y 104) (xm_y 104) ∈ xG := ⟨x_inG (List.mem_of_getElem? (i := 637) (by decide +kernel)) rfl, ⟨x_inG (List.mem_of_getElem? (i := 635) (by decide +kernel)) rfl, x_inG (List.mem_of_getElem? (i := 636) (by decide +kernel)) rfl⟩⟩
theorem x_me_105 : Cond.code (xm_y 105) (xm_b 105) (xm_L 105) (xm_r 105) ∈ xG ∧ Cond.instanceMethod (xm_y 105) ∈ xG ∧ Cond.selects (xm_o 105) (xm_y 105) (xm_y 105) ∈ xG := ⟨x_inG (List.mem_of_getElem? (i := 641) (by decide +kernel)) rfl, ⟨x_inG (List.mem_of_getElem? (i := 639) (by decide +kernel)) rfl, x_inG (List.mem_of_getElem? (i := 640) (by decide +kernel)) rfl⟩⟩
theorem x_me_106 : Cond.code (xm_y 106) (xm_b 106) (xm_L 106) (xm_r 106) ∈ xG ∧ Cond.instanceMethod (xm_y 106) ∈ xG ∧ Cond.selects (xm_o 106) (xm_y 106) (xm_y 106) ∈ xG := ⟨x_inG (List.mem_of_getElem? (i := 645) (by decide +kernel)) rfl, ⟨x_inG (List.mem_of_getElem? (i := 643) (by decide +kernel)) rfl, x_inG (List.mem_of_getElem? (i := 644) (by decide +kernel)) rfl⟩⟩
theorem x_me_107 : Cond.code (xm_y 107) (xm_b 107) (xm_L 107) (xm_r 107) ∈ xG ∧ Cond.instanceMethod (xm_y 107) ∈ xG ∧ Cond.selects (xm_o 107) (xm_y 107) (xm_y 107) ∈ xG := ⟨x_inG (List.mem_of_getElem? (i := 649) (by decide +kernel)) rfl, ⟨x_inG (List.mem_of_getElem? (i := 647) (by decide +kernel)) rfl, x_inG (List.mem_of_getElem? (i := 648) (by decide +kernel)) rfl⟩⟩
theorem x_me_108 : Cond.code (xm_y 108) (xm_b 108) (xm_L 108) (xm_r 108) ∈ xG ∧ Cond.instanceMethod (xm_y 108) ∈ xG ∧ Cond.selects (xm_o 108) (xm_y 108) (xm_y 108) ∈ xG := ⟨x_inG (List.mem_of_getElem? (i := 657) (by decide +kernel)) rfl, ⟨x_inG (List.mem_of_getElem? (i := 656) (by decide +kernel)) rfl, x_inG (List.mem_of_getElem? (i := 33) (by decide +kernel)) rfl⟩⟩
theorem x_me_109 : Cond.code (xm_y 109) (xm_b 109) (xm_L 109) (xm_r 109) ∈ xG ∧ Cond.instanceMethod (xm_y 109) ∈ xG ∧ Cond.selects (xm_o 109) (xm_y 109) (xm_y 109) ∈ xG := ⟨x_inG (List.mem_of_getElem? (i := 653) (by decide +kernel)) rfl, ⟨x_inG (List.mem_of_getElem? (i := 651) (by decide +kernel)) rfl, x_inG (List.mem_of_getElem? (i := 652) (by decide +kernel)) rfl⟩⟩
theorem x_me_110 : Cond.code (xm_y 110) (xm_b 110) (xm_L 110) (xm_r 110) ∈ xG ∧ Cond.instanceMethod (xm_y 110) ∈ xG ∧ Cond.selects (xm_o 110) (xm_y 110) (xm_y 110) ∈ xG := ⟨x_inG (List.mem_of_getElem? (i := 661) (by decide +kernel)) rfl, ⟨x_inG (List.mem_of_getElem? (i := 659) (by decide +kernel)) rfl, x_inG (List.mem_of_getElem? (i := 660) (by decide +kernel)) rfl⟩⟩
theorem x_me_111 : Cond.code (xm_y 111) (xm_b 111) (xm_L 111) (xm_r 111) ∈ xG ∧ Cond.instanceMethod (xm_y 111) ∈ xG ∧ Cond.selects (xm_o 111) (xm_y 111) (xm_y 111) ∈ xG := ⟨x_inG (List.mem_of_getElem? (i := 665) (by decide +kernel)) rfl, ⟨x_inG (List.mem_of_getElem? (i := 663) (by decide +kernel)) rfl, x_inG (List.mem_of_getElem? (i := 664) (by decide +kernel)) rfl⟩⟩
theorem x_me_112 : Cond.code (xm_y 112) (xm_b 112) (xm_L 112) (xm_r 112) ∈ xG ∧ Cond.instanceMethod (xm_y 112) ∈ xG ∧ Cond.selects (xm_o 112) (xm_y 112) (xm_y 112) ∈ xG := ⟨x_inG (List.mem_of_getElem? (i := 669) (by decide +kernel)) rfl, ⟨x_inG (List.mem_of_getElem? (i := 667) (by decide +kernel)) rfl, x_inG (List.mem_of_getElem? (i := 668) (by decide +kernel)) rfl⟩⟩
theorem x_me_113 : Cond.code (xm_y 113) (xm_b 113) (xm_L 113) (xm_r 113) ∈ xG ∧ Cond.instanceMethod (xm_y 113) ∈ xG ∧ Cond.selects (xm_o 113) (xm_y 113) (xm_y 113) ∈ xG := ⟨x_inG (List.mem_of_getElem? (i := 673) (by decide +kernel)) rfl, ⟨x_inG (List.mem_of_getElem? (i := 671) (by decide +kernel)) rfl, x_inG (List.mem_of_getElem? (i := 672) (by decide +kernel)) rfl⟩⟩
theorem x_me_114 : Cond.code (xm_y 114) (xm_b 114) (xm_L 114) (xm_r 114) ∈ xG ∧ Cond.instanceMethod (xm_y 114) ∈ xG ∧ Cond.selects (xm_o 114) (xm_y 114) (xm_y 114) ∈ xG := ⟨x_inG (List.mem_of_getElem? (i := 677) (by decide +kernel)) rfl, ⟨x_inG (List.mem_of_getElem? (i := 675) (by decide +kernel)) rfl, x_inG (List.mem_of_getElem? (i := 676) (by decide +kernel)) rfl⟩⟩
theorem x_me_115 : Cond.code (xm_y 115) (xm_b 115) (xm_L 115) (xm_r 115) ∈ xG ∧ Cond.instanceMethod (xm_y 115) ∈ xG ∧ Cond.selects (xm_o 115) (xm_y 115) (xm_y 115) ∈ xG := ⟨x_inG (List.mem_of_getElem? (i := 681) (by decide +kernel)) rfl, ⟨x_inG (List.mem_of_getElem? (i := 679) (by decide +kernel)) rfl, x_inG (List.mem_of_getElem? (i := 680) (by decide +kernel)) rfl⟩⟩
theorem x_me_116 : Cond.code (xm_y 116) (xm_b 116) (xm_L 116) (xm_r 116) ∈ xG ∧ Cond.instanceMethod (xm_y 116) ∈ xG ∧ Cond.selects (xm_o 116) (xm_y 116) (xm_y 116) ∈ xG := ⟨x_inG (List.mem_of_getElem? (i := 685) (by decide +kernel)) rfl, ⟨x_inG (List.mem_of_getElem? (i := 683) (by decide +kernel)) rfl, x_inG (List.mem_of_getElem? (i := 684) (by decide +kernel)) rfl⟩⟩
theorem x_me_117 : Cond.code (xm_y 117) (xm_b 117) (xm_L 117) (xm_r 117) ∈ xG ∧ Cond.instanceMethod (xm_y 117) ∈ xG ∧ Cond.selects (xm_o 117) (xm_y 117) (xm_y 117) ∈ xG := ⟨x_inG (List.mem_of_getElem? (i := 689) (by decide +kernel)) rfl, ⟨x_inG (List.mem_of_getElem? (i := 687) (by decide +kernel)) rfl, x_inG (List.mem_of_getElem? (i := 688) (by decide +kernel)) rfl⟩⟩
theorem x_me_118 : Cond.code (xm_y 118) (xm_b 118) (xm_L 118) (xm_r 118) ∈ xG ∧ Cond.instanceMethod (xm_y 118) ∈ xG ∧ Cond.selects (xm_o 118) (xm_y 118) (xm_y 118) ∈ xG := ⟨x_inG (List.mem_of_getElem? (i := 701) (by decide +kernel)) rfl, ⟨x_inG (List.mem_of_getElem? (i := 700) (by decide +kernel)) rfl, x_inG (List.mem_of_getElem? (i := 35) (by decide +kernel)) rfl⟩⟩
theorem x_me_119 : Cond.code (xm_y 119) (xm_b 119) (xm_L 119) (xm_r 119) ∈ xG ∧ Cond.instanceMethod (xm_y 119) ∈ xG ∧ Cond.selects (xm_o 119) (xm_y 119) (xm_y 119) ∈ xG := ⟨x_inG (List.mem_of_getElem? (i := 697) (by decide +kernel)) rfl, ⟨x_inG (List.mem_of_getElem? (i := 696) (by decide +kernel)) rfl, x_inG (List.mem_of_getElem? (i := 34) (by decide +kernel)) rfl⟩⟩
theorem x_me_120 : Cond.code (xm_y 120) (xm_b 120) (xm_L 120) (xm_r 120) ∈ xG ∧ Cond.instanceMethod (xm_y 120) ∈ xG ∧ Cond.selects (xm_o 120) (xm_y 120) (xm_y 120) ∈ xG := ⟨x_inG (List.mem_of_getElem? (i := 693) (by decide +kernel)) rfl, ⟨x_inG (List.mem_of_getElem? (i := 691) (by decide +kernel)) rfl, x_inG (List.mem_of_getElem? (i := 692) (by decide +kernel)) rfl⟩⟩
theorem x_me_121 : Cond.code (xm_y 121) (xm_b 121) (xm_L 121) (xm_r 121) ∈ xG ∧ Cond.instanceMethod (xm_y 121) ∈ xG ∧ Cond.selects (xm_o 121) (xm_y 121) (xm_y 121) ∈ xG := ⟨x_inG (List.mem_of_getElem? (i := 705) (by decide +kernel)) rfl, ⟨x_inG (List.mem_of_getElem? (i := 703) (by decide +kernel)) rfl, x_inG (List.mem_of_getElem? (i := 704) (by decide +kernel)) rfl⟩⟩
theorem x_me_122 : Cond.code (xm_y 122) (xm_b 122) (xm_L 122) (xm_r 122) ∈ xG ∧ Cond.instanceMethod (xm_y 122) ∈ xG ∧ Cond.selects (xm_o 122) (xm_y 122) (xm_y 122) ∈ xG := ⟨x_inG (List.mem_of_getElem? (i := 709) (by decide +kernel)) rfl, ⟨x_inG (List.mem_of_getElem? (i := 707) (by decide +kernel)) rfl, x_inG (List.mem_of_getElem? (i := 708) (by decide +kernel)) rfl⟩⟩
theorem x_me_123 : Cond.code (xm_y 123) (xm_b 123) (xm_L 123) (xm_r 123) ∈ xG ∧ Cond.static (xm_y 123) ∈ xG := ⟨x_inG (List.mem_of_getElem? (i := 500) (by decide +kernel)) rfl, x_inG (List.mem_of_getElem? (i := 499) (by decide +kernel)) rfl⟩
end
section
/-! what an entry of a table must hold beside its decoding -/
def x_fit (k j : Nat) : Bool := Nat.ble ((xm_R j).frames + 1) (xm_R k).frames && Nat.ble (8 + (xm_L j + 11) + (xm_R j).locals) (xm_R k).locals
def x_cb (k a b : Nat) : Bool := x_fit k a && decide ((xm_y a).cls = xm_o a ∧ (xm_y a).cls ≠ "java/lang/invoke/MethodHandle" ∧ (xm_y a).cls ≠ "java/lang/invoke/VarHandle" ∧ (parseMethodDescriptor (xm_y a).desc).map (fun d => d.parameters.length) = some b)
def x_ex (k pc : Nat) (ins : Instr) (a b : Nat) : Prop := match ins with
  | .iconst i => Int32.ofInt i = x_ci i
  | .bipush i => (Int8.ofInt i).toInt32 = x_ci i
  | .sipush i => (Int16.ofInt i).toInt32 = x_ci i
  | .ldc2_w idx => (xm_c k, idx, a) ∈ x_cl
  | .istore_n i => i.val < xm_L k
  | .astore_n i => i.val < xm_L k
  | .istore i => i < xm_L k
  | .astore i => i < xm_L k
  | .lstore_n i => i.val + 1 < xm_L k
  | .lstore i => i + 1 < xm_L k
  | .iinc i d => i < xm_L k ∧ Int32.ofInt d = x_ci d
  | .goto off => (pc : Int) + off = (a : Int)
  | .ifCond _ off => (pc : Int) + off = (a : Int)
  | .if_icmp _ off => (pc : Int) + off = (a : Int)
  | .getfield idx => (xm_c k, idx, a, b) ∈ x_fl
  | .putfield idx => (xm_c k, idx, a, b) ∈ x_fl
  | .invokevirtual idx => (xm_c k, idx, a) ∈ x_lv ∧ x_cb k a b = true
  | .invokestatic idx => 900 ≤ a ∨ (((xm_c k, idx, a) ∈ x_ls ∧ xm_o a = xm_o k) ∨ (xm_c k, idx, a) ∈ x_ln) ∧ x_cb k a b = true
  | .invokespecial idx => 900 ≤ a ∨ (xm_c k, idx, a) ∈ x_li ∧ x_cb k a b = true ∧ (xm_y a).name = "<init>" ∧ xm_r a = none
  | .new idx => (xm_c k, idx, a) ∈ x_nw
  | _ => True
def x_exb (k pc : Nat) (ins : Instr) (a b : Nat) : Bool := match ins with
  | .iconst i => decide (Int32.ofInt i = x_ci i)
  | .bipush i => decide ((Int8.ofInt i).toInt32 = x_ci i)
  | .sipush i => decide ((Int16.ofInt i).toInt32 = x_ci i)
  | .ldc2_w idx => decide ((xm_c k, idx, a) ∈ x_cl)
  | .istore_n i => decide (i.val < xm_L k)
  | .astore_n i => decide (i.val < xm_L k)
  | .istore i => decide (i < xm_L k)
  | .astore i => decide (i < xm_L k)
  | .lstore_n i => decide (i.val + 1 < xm_L k)
  | .lstore i => decide (i + 1 < xm_L k)
  | .iinc i d => decide (i < xm_L k ∧ Int32.ofInt d = x_ci d)
  | .goto off => decide ((pc : Int) + off = (a : Int))
  | .ifCond _ off => decide ((pc : Int) + off = (a : Int))
  | .if_icmp _ off => decide ((pc : Int) + off = (a : Int))
  | .getfield idx => decide ((xm_c k, idx, a, b) ∈ x_fl)
  | .putfield idx => decide ((xm_c k, idx, a, b) ∈ x_fl)
  | .invokevirtual idx => decide ((xm_c k, idx, a) ∈ x_lv ∧ x_cb k a b = true)
  | .invokestatic idx => decide (900 ≤ a ∨ (((xm_c k, idx, a) ∈ x_ls ∧ xm_o a = xm_o k) ∨ (xm_c k, idx, a) ∈ x_ln) ∧ x_cb k a b = true)
  | .invokespecial idx => decide (900 ≤ a ∨ (xm_c k, idx, a) ∈ x_li ∧ x_cb k a b = true ∧ (xm_y a).name = "<init>" ∧ xm_r a = none)
  | .new idx => decide ((xm_c k, idx, a) ∈ x_nw)
  | _ => true
theorem x_ex_of {k pc : Nat} {ins : Instr} {a b : Nat} (h : x_exb k pc ins a b = true) : x_ex k pc ins a b := by
  unfold x_exb at h
  unfold x_ex
  split at h <;> first | trivial | exact of_decide_eq_true h
def x_ok (k pc : Nat) (q : xQ) : Prop := decode (xm_b k) pc = .ok (q.1, x_len q.1 q.2.2.2) ∧ q.2.1 = pc + x_len q.1 q.2.2.2 ∧ x_ex k pc q.1 q.2.2.1 q.2.2.2
def x_okb (k pc : Nat) (q : xQ) : Bool := decide (decode (xm_b k) pc = .ok (q.1, x_len q.1 q.2.2.2)) && (Nat.beq q.2.1 (pc + x_len q.1 q.2.2.2) && x_exb k pc q.1 q.2.2.1 q.2.2.2)
theorem x_find_mem {pc : Nat} {q : xQ} : ∀ {l : List (Nat × xQ)}, x_find pc l = some q → (pc, q) ∈ l
  | [], h => by simp [x_find] at h
  | e :: r, h => by
    simp only [x_find] at h
    cases hq : Nat.beq e.1 pc with
    | true =>
      rw [hq, cond_true] at h
      have := Nat.eq_of_beq_eq_true hq
      cases h
      subst this
      exact List.mem_cons_self
    | false =>
      rw [hq, cond_false] at h
      exact List.mem_cons_of_mem _ (x_find_mem h)
theorem x_ok_all {k : Nat} (h : ((xm k).2.2.2.2.2.2.2.all fun e => x_okb k e.1 e.2) = true) : ∀ pc q, xm_i k pc = some q → x_ok k pc q := by
  intro pc q hq
  have h1 := List.all_eq_true.mp h _ (x_find_mem hq)
  simp only [x_okb, Bool.and_eq_true, decide_eq_true_eq] at h1
  exact ⟨h1.1, Nat.eq_of_beq_eq_true h1.2.1, x_ex_of h1.2.2⟩
theorem x_lv_me : ∀ e ∈ x_lv, Cond.initialized (xm_o e.2.2) ∈ xG ∧ Cond.code (xm_y e.2.2) (xm_b e.2.2) (xm_L e.2.2) (xm_r e.2.2) ∈ xG ∧ Cond.instanceMethod (xm_y e.2.2) ∈ xG ∧ Cond.selects (xm_o e.2.2) (xm_y e.2.2) (xm_y e.2.2) ∈ xG := List.forall_mem_cons.mpr ⟨⟨x_ck_0.2, x_me_1⟩, List.forall_mem_cons.mpr ⟨⟨x_ck_0.2, x_me_2⟩, List.forall_mem_cons.mpr ⟨⟨x_ck_0.2, x_me_5⟩, List.forall_mem_cons.mpr ⟨⟨x_ck_0.2, x_me_6⟩, List.forall_mem_cons.mpr ⟨⟨x_ck_2.2, x_me_32⟩, List.forall_mem_cons.mpr ⟨⟨x_ck_0.2, x_me_8⟩, List.forall_mem_cons.mpr ⟨⟨x_ck_0.2, x_me_3⟩, List.forall_mem_cons.mpr ⟨⟨x_ck_3.2, x_me_46⟩, List.forall_mem_cons.mpr ⟨⟨x_ck_2.2, x_me_40⟩, List.forall_mem_cons.mpr ⟨⟨x_ck_0.2, x_me_18⟩, List.forall_mem_cons.mpr ⟨⟨x_ck_0.2, x_me_20⟩, List.forall_mem_cons.mpr ⟨⟨x_ck_0.2, x_me_22⟩, List.forall_mem_cons.mpr ⟨⟨x_ck_0.2, x_me_21⟩, List.forall_mem_cons.mpr ⟨⟨x_ck_0.2, x_me_23⟩, List.forall_mem_cons.mpr ⟨⟨x_ck_0.2, x_me_19⟩, List.forall_mem_cons.mpr ⟨⟨x_ck_0.2, x_me_16⟩, List.forall_mem_cons.mpr ⟨⟨x_ck_2.2, x_me_32⟩, List.forall_mem_cons.mpr ⟨⟨x_ck_2.2, x_me_31⟩, List.forall_mem_cons.mpr ⟨⟨x_ck_2.2, x_me_38⟩, List.forall_mem_cons.mpr ⟨⟨x_ck_3.2, x_me_45⟩, List.forall_mem_cons.mpr ⟨⟨x_ck_2.2, x_me_33⟩, List.forall_mem_cons.mpr ⟨⟨x_ck_2.2, x_me_36⟩, List.forall_mem_cons.mpr ⟨⟨x_ck_2.2, x_me_37⟩, List.forall_mem_cons.mpr ⟨⟨x_ck_3.2, x_me_48⟩, List.forall_mem_cons.mpr ⟨⟨x_ck_4.2, x_me_77⟩, List.forall_mem_cons.mpr ⟨⟨x_ck_2.2, x_me_39⟩, List.forall_mem_cons.mpr ⟨⟨x_ck_4.2, x_me_75⟩, List.forall_mem_cons.mpr ⟨⟨x_ck_2.2, x_me_38⟩, List.forall_mem_cons.mpr ⟨⟨x_ck_2.2, x_me_36⟩, List.forall_mem_cons.mpr ⟨⟨x_ck_2.2, x_me_37⟩, List.forall_mem_cons.mpr ⟨⟨x_ck_2.2, x_me_32⟩, List.forall_mem_cons.mpr ⟨⟨x_ck_4.2, x_me_74⟩, List.forall_mem_cons.mpr ⟨⟨x_ck_2.2, x_me_34⟩, List.forall_mem_cons.mpr ⟨⟨x_ck_2.2, x_me_35⟩, List.forall_mem_cons.mpr ⟨⟨x_ck_1.2, x_me_28⟩, List.forall_mem_cons.mpr ⟨⟨x_ck_4.2, x_me_78⟩, List.forall_mem_cons.mpr ⟨⟨x_ck_3.2, x_me_43⟩, List.forall_mem_cons.mpr ⟨⟨x_ck_0.2, x_me_14⟩, List.forall_mem_cons.mpr ⟨⟨x_ck_0.2, x_me_16⟩, List.forall_mem_cons.mpr ⟨⟨x_ck_4.2, x_me_76⟩, List.forall_mem_cons.mpr ⟨⟨x_ck_2.2, x_me_30⟩, List.forall_mem_cons.mpr ⟨⟨x_ck_0.2, x_me_7⟩, List.forall_mem_cons.mpr ⟨⟨x_ck_0.2, x_me_1⟩, List.forall_mem_cons.mpr ⟨⟨x_ck_0.2, x_me_2⟩, List.forall_mem_cons.mpr ⟨⟨x_ck_0.2, x_me_3⟩, List.forall_mem_cons.mpr ⟨⟨x_ck_0.2, x_me_8⟩, List.forall_mem_cons.mpr ⟨⟨x_ck_0.2, x_me_9⟩, List.forall_mem_cons.mpr ⟨⟨x_ck_0.2, x_me_10⟩, List.forall_mem_cons.mpr ⟨⟨x_ck_0.2, x_me_11⟩, List.forall_mem_cons.mpr ⟨⟨x_ck_0.2, x_me_4⟩, List.forall_mem_cons.mpr ⟨⟨x_ck_0.2, x_me_12⟩, List.forall_mem_cons.mpr ⟨⟨x_ck_0.2, x_me_13⟩, List.forall_mem_cons.mpr ⟨⟨x_ck_1.2, x_me_25⟩, List.forall_mem_cons.mpr ⟨⟨x_ck_2.2, x_me_41⟩, List.forall_mem_cons.mpr ⟨⟨x_ck_4.2, x_me_80⟩, List.forall_mem_cons.mpr ⟨⟨x_ck_3.2, x_me_47⟩, List.forall_mem_cons.mpr ⟨⟨x_ck_3.2, x_me_48⟩, List.forall_mem_cons.mpr ⟨⟨x_ck_3.2, x_me_49⟩, List.forall_mem_cons.mpr ⟨⟨x_ck_3.2, x_me_44⟩, List.forall_mem_cons.mpr ⟨⟨x_ck_4.2, x_me_83⟩, List.forall_mem_cons.mpr ⟨⟨x_ck_2.2, x_me_33⟩, List.forall_mem_cons.mpr ⟨⟨x_ck_3.2, x_me_46⟩, List.forall_mem_cons.mpr ⟨⟨x_ck_0.2, x_me_17⟩, List.forall_mem_cons.mpr ⟨⟨x_ck_4.2, x_me_79⟩, List.forall_mem_cons.mpr ⟨⟨x_ck_4.2, x_me_81⟩, List.forall_mem_cons.mpr ⟨⟨x_ck_4.2, x_me_82⟩, List.forall_mem_cons.mpr ⟨⟨x_ck_0.2, x_me_15⟩, List.forall_mem_cons.mpr ⟨⟨x_ck_1.2, x_me_26⟩, List.forall_mem_cons.mpr ⟨⟨x_ck_1.2, x_me_27⟩, List.forall_mem_cons.mpr ⟨⟨x_ck_4.2, x_me_84⟩, List.forall_mem_cons.mpr ⟨⟨x_ck_3.2, x_me_45⟩, List.forall_mem_cons.mpr ⟨⟨x_ck_5.2, x_me_90⟩, List.forall_mem_cons.mpr ⟨⟨x_ck_5.2, x_me_89⟩, List.forall_mem_cons.mpr ⟨⟨x_ck_5.2, x_me_91⟩, List.forall_mem_cons.mpr ⟨⟨x_ck_5.2, x_me_92⟩, List.forall_mem_cons.mpr ⟨⟨x_ck_5.2, x_me_93⟩, List.forall_mem_cons.mpr ⟨⟨x_ck_5.2, x_me_95⟩, List.forall_mem_cons.mpr ⟨⟨x_ck_5.2, x_me_98⟩, List.forall_mem_cons.mpr ⟨⟨x_ck_5.2, x_me_97⟩, List.forall_mem_cons.mpr ⟨⟨x_ck_5.2, x_me_96⟩, List.forall_mem_cons.mpr ⟨⟨x_ck_5.2, x_me_99⟩, List.forall_mem_cons.mpr ⟨⟨x_ck_5.2, x_me_100⟩, List.forall_mem_cons.mpr ⟨⟨x_ck_5.2, x_me_94⟩, List.forall_mem_cons.mpr ⟨⟨x_ck_5.2, x_me_102⟩, List.forall_mem_cons.mpr ⟨⟨x_ck_5.2, x_me_108⟩, List.forall_mem_cons.mpr ⟨⟨x_ck_5.2, x_me_119⟩, List.forall_mem_cons.mpr ⟨⟨x_ck_5.2, x_me_118⟩, List.forall_mem_cons.mpr ⟨⟨x_ck_4.2, x_me_51⟩, List.forall_mem_cons.mpr ⟨⟨x_ck_5.2, x_me_101⟩, List.forall_mem_cons.mpr ⟨⟨x_ck_4.2, x_me_52⟩, List.forall_mem_cons.mpr ⟨⟨x_ck_5.2, x_me_103⟩, List.forall_mem_cons.mpr ⟨⟨x_ck_4.2, x_me_53⟩, List.forall_mem_cons.mpr ⟨⟨x_ck_5.2, x_me_104⟩, List.forall_mem_cons.mpr ⟨⟨x_ck_4.2, x_me_54⟩, List.forall_mem_cons.mpr ⟨⟨x_ck_5.2, x_me_105⟩, List.forall_mem_cons.mpr ⟨⟨x_ck_4.2, x_me_55⟩, List.forall_mem_cons.mpr ⟨⟨x_ck_5.2, x_me_106⟩, List.forall_mem_cons.mpr ⟨⟨x_ck_4.2, x_me_56⟩, List.forall_mem_cons.mpr ⟨⟨x_ck_5.2, x_me_107⟩, List.forall_mem_cons.mpr ⟨⟨x_ck_4.2, x_me_57⟩, List.forall_mem_cons.mpr ⟨⟨x_ck_5.2, x_me_109⟩, List.forall_mem_cons.mpr ⟨⟨x_ck_4.2, x_me_58⟩, List.forall_mem_cons.mpr ⟨⟨x_ck_5.2, x_me_110⟩, List.forall_mem_cons.mpr ⟨⟨x_ck_4.2, x_me_59⟩, List.forall_mem_cons.mpr ⟨⟨x_ck_5.2, x_me_111⟩, List.forall_mem_cons.mpr ⟨⟨x_ck_4.2, x_me_60⟩, List.forall_mem_cons.mpr ⟨⟨x_ck_5.2, x_me_112⟩, List.forall_mem_cons.mpr ⟨⟨x_ck_4.2, x_me_61⟩, List.forall_mem_cons.mpr ⟨⟨x_ck_5.2, x_me_113⟩, List.forall_mem_cons.mpr ⟨⟨x_ck_4.2, x_me_62⟩, List.forall_mem_cons.mpr ⟨⟨x_ck_5.2, x_me_114⟩, List.forall_mem_cons.mpr ⟨⟨x_ck_4.2, x_me_63⟩, List.forall_mem_cons.mpr ⟨⟨x_ck_5.2, x_me_115⟩, List.forall_mem_cons.mpr ⟨⟨x_ck_4.2, x_me_64⟩, List.forall_mem_cons.mpr ⟨⟨x_ck_5.2, x_me_116⟩, List.forall_mem_cons.mpr ⟨⟨x_ck_4.2, x_me_65⟩, List.forall_mem_cons.mpr ⟨⟨x_ck_5.2, x_me_117⟩, List.forall_mem_cons.mpr ⟨⟨x_ck_4.2, x_me_66⟩, List.forall_mem_cons.mpr ⟨⟨x_ck_5.2, x_me_120⟩, List.forall_mem_cons.mpr ⟨⟨x_ck_4.2, x_me_67⟩, List.forall_mem_cons.mpr ⟨⟨x_ck_5.2, x_me_121⟩, List.forall_mem_cons.mpr ⟨⟨x_ck_4.2, x_me_68⟩, List.forall_mem_cons.mpr ⟨⟨x_ck_5.2, x_me_122⟩, fun _ h => absurd h List.not_mem_nil⟩⟩⟩⟩⟩⟩⟩⟩⟩⟩⟩⟩⟩⟩⟩⟩⟩⟩⟩⟩⟩⟩⟩⟩⟩⟩⟩⟩⟩⟩⟩⟩⟩⟩⟩⟩⟩⟩⟩⟩⟩⟩⟩⟩⟩⟩⟩⟩⟩⟩⟩⟩⟩⟩⟩⟩⟩⟩⟩⟩⟩⟩⟩⟩⟩⟩⟩⟩⟩⟩⟩⟩⟩⟩⟩⟩⟩⟩⟩⟩⟩⟩⟩⟩⟩⟩⟩⟩⟩⟩⟩⟩⟩⟩⟩⟩⟩⟩⟩⟩⟩⟩⟩⟩⟩⟩⟩⟩⟩⟩⟩⟩⟩⟩⟩⟩⟩⟩⟩⟩⟩⟩⟩
theorem x_ls_me : ∀ e ∈ x_ls, Cond.initialized (xm_o e.2.2) ∈ xG ∧ Cond.code (xm_y e.2.2) (xm_b e.2.2) (xm_L e.2.2) (xm_r e.2.2) ∈ xG ∧ Cond.static (xm_y e.2.2) ∈ xG := List.forall_mem_cons.mpr ⟨⟨x_ck_4.2, x_me_73⟩, List.forall_mem_cons.mpr ⟨⟨x_ck_4.2, x_me_72⟩, List.forall_mem_cons.mpr ⟨⟨x_ck_4.2, x_me_69⟩, List.forall_mem_cons.mpr ⟨⟨x_ck_4.2, x_me_70⟩, List.forall_mem_cons.mpr ⟨⟨x_ck_5.2, x_me_86⟩, List.forall_mem_cons.mpr ⟨⟨x_ck_5.2, x_me_88⟩, List.forall_mem_cons.mpr ⟨⟨x_ck_5.2, x_me_87⟩, List.forall_mem_cons.mpr ⟨⟨x_ck_6, x_me_123⟩, fun _ h => absurd h List.not_mem_nil⟩⟩⟩⟩⟩⟩⟩⟩
theorem x_ln_me : ∀ e ∈ x_ln, Cond.initialized (xm_o e.2.2) ∈ xG ∧ Cond.code (xm_y e.2.2) (xm_b e.2.2) (xm_L e.2.2) (xm_r e.2.2) ∈ xG ∧ Cond.static (xm_y e.2.2) ∈ xG := List.forall_mem_cons.mpr ⟨⟨x_ck_4.2, x_me_71⟩, List.forall_mem_cons.mpr ⟨⟨x_ck_4.2, x_me_70⟩, List.forall_mem_cons.mpr ⟨⟨x_ck_4.2, x_me_69⟩, List.forall_mem_cons.mpr ⟨⟨x_ck_4.2, x_me_69⟩, fun _ h => absurd h List.not_mem_nil⟩⟩⟩⟩
theorem x_li_me : ∀ e ∈ x_li, Cond.initialized (xm_o e.2.2) ∈ xG ∧ Cond.code (xm_y e.2.2) (xm_b e.2.2) (xm_L e.2.2) (xm_r e.2.2) ∈ xG ∧ Cond.instanceMethod (xm_y e.2.2) ∈ xG := List.forall_mem_cons.mpr ⟨⟨x_ck_2.2, x_me_29⟩, List.forall_mem_cons.mpr ⟨⟨x_ck_3.2, x_me_42⟩, List.forall_mem_cons.mpr ⟨⟨x_ck_1.2, x_me_24⟩, List.forall_mem_cons.mpr ⟨⟨x_ck_0.2, x_me_0⟩, List.forall_mem_cons.mpr ⟨⟨x_ck_4.2, x_me_50⟩, List.forall_mem_cons.mpr ⟨⟨x_ck_5.2, x_me_85⟩, fun _ h => absurd h List.not_mem_nil⟩⟩⟩⟩⟩⟩
end
section
set_option maxRecDepth 100000 in
theorem xo_0 : ∀ pc q, xm_i 0 pc = some q → x_ok 0 pc q := x_ok_all (by decide +kernel)
set_option maxRecDepth 100000 in
theorem xo_1 : ∀ pc q, xm_i 1 pc = some q → x_ok 1 pc q := x_ok_all (by decide +kernel)
set_option maxRecDepth 100000 in
theorem xo_2 : ∀ pc q, xm_i 2 pc = some q → x_ok 2 pc q := x_ok_all (by decide +kernel)
set_option maxRecDepth 100000 in
theorem xo_3 : ∀ pc q, xm_i 3 pc = some q → x_ok 3 pc q := x_ok_all (by decide +kernel)
set_option maxRecDepth 100000 in
theorem xo_4 : ∀ pc q, xm_i 4 pc = some q → x_ok 4 pc q := x_ok_all (by decide +kernel)
set_option maxRecDepth 100000 in
theorem xo_5 : ∀ pc q, xm_i 5 pc = some q → x_ok 5 pc q := x_ok_all (by decide +kernel)
set_option maxRecDepth 100000 in
theorem xo_6 : ∀ pc q, xm_i 6 pc = some q → x_ok 6 pc q := x_ok_all (by decide +kernel)
set_option maxRecDepth 100000 in
theorem xo_7 : ∀ pc q, xm_i 7 pc = some q → x_ok 7 pc q := x_ok_all (by decide +kernel)
set_option maxRecDepth 100000 in
theorem xo_8 : ∀ pc q, xm_i 8 pc = some q → x_ok 8 pc q := x_ok_all (by decide +kernel)
set_option maxRecDepth 100000 in
theorem xo_9 : ∀ pc q, xm_i 9 pc = some q → x_ok 9 pc q := x_ok_all (by decide +kernel)
set_option maxRecDepth 100000 in
theorem xo_10 : ∀ pc q, xm_i 10 pc = some q → x_ok 10 pc q := x_ok_all (by decide +kernel)
set_option maxRecDepth 100000 in
theorem xo_11 : ∀ pc q, xm_i 11 pc = some q → x_ok 11 pc q := x_ok_all (by decide +kernel)
set_option maxRecDepth 100000 in
theorem xo_12 : ∀ pc q, xm_i 12 pc = some q → x_ok 12 pc q := x_ok_all (by decide +kernel)
set_option maxRecDepth 100000 in
theorem xo_13 : ∀ pc q, xm_i 13 pc = some q → x_ok 13 pc q := x_ok_all (by decide +kernel)
set_option maxRecDepth 100000 in
theorem xo_14 : ∀ pc q, xm_i 14 pc = some q → x_ok 14 pc q := x_ok_all (by decide +kernel)
set_option maxRecDepth 100000 in
theorem xo_15 : ∀ pc q, xm_i 15 pc = some q → x_ok 15 pc q := x_ok_all (by decide +kernel)
set_option maxRecDepth 100000 in
theorem xo_16 : ∀ pc q, xm_i 16 pc = some q → x_ok 16 pc q := x_ok_all (by decide +kernel)
set_option maxRecDepth 100000 in
theorem xo_17 : ∀ pc q, xm_i 17 pc = some q → x_ok 17 pc q := x_ok_all (by decide +kernel)
set_option maxRecDepth 100000 in
theorem xo_18 : ∀ pc q, xm_i 18 pc = some q → x_ok 18 pc q := x_ok_all (by decide +kernel)
set_option maxRecDepth 100000 in
theorem xo_19 : ∀ pc q, xm_i 19 pc = some q → x_ok 19 pc q := x_ok_all (by decide +kernel)
set_option maxRecDepth 100000 in
theorem xo_20 : ∀ pc q, xm_i 20 pc = some q → x_ok 20 pc q := x_ok_all (by decide +kernel)
set_option maxRecDepth 100000 in
theorem xo_21 : ∀ pc q, xm_i 21 pc = some q → x_ok 21 pc q := x_ok_all (by decide +kernel)
set_option maxRecDepth 100000 in
theorem xo_22 : ∀ pc q, xm_i 22 pc = some q → x_ok 22 pc q := x_ok_all (by decide +kernel)
set_option maxRecDepth 100000 in
theorem xo_23 : ∀ pc q, xm_i 23 pc = some q → x_ok 23 pc q := x_ok_all (by decide +kernel)
set_option maxRecDepth 100000 in
theorem xo_24 : ∀ pc q, xm_i 24 pc = some q → x_ok 24 pc q := x_ok_all (by decide +kernel)
set_option maxRecDepth 100000 in
theorem xo_25 : ∀ pc q, xm_i 25 pc = some q → x_ok 25 pc q := x_ok_all (by decide +kernel)
set_option maxRecDepth 100000 in
theorem xo_26 : ∀ pc q, xm_i 26 pc = some q → x_ok 26 pc q := x_ok_all (by decide +kernel)
set_option maxRecDepth 100000 in
theorem xo_27 : ∀ pc q, xm_i 27 pc = some q → x_ok 27 pc q := x_ok_all (by decide +kernel)
set_option maxRecDepth 100000 in
theorem xo_28 : ∀ pc q, xm_i 28 pc = some q → x_ok 28 pc q := x_ok_all (by decide +kernel)
set_option maxRecDepth 100000 in
theorem xo_29 : ∀ pc q, xm_i 29 pc = some q → x_ok 29 pc q := x_ok_all (by decide +kernel)
end
section
set_option maxRecDepth 100000 in
theorem xo_30 : ∀ pc q, xm_i 30 pc = some q → x_ok 30 pc q := x_ok_all (by decide +kernel)
set_option maxRecDepth 100000 in
theorem xo_31 : ∀ pc q, xm_i 31 pc = some q → x_ok 31 pc q := x_ok_all (by decide +kernel)
set_option maxRecDepth 100000 in
theorem xo_32 : ∀ pc q, xm_i 32 pc = some q → x_ok 32 pc q := x_ok_all (by decide +kernel)
set_option maxRecDepth 100000 in
theorem xo_33 : ∀ pc q, xm_i 33 pc = some q → x_ok 33 pc q := x_ok_all (by decide +kernel)
set_option maxRecDepth 100000 in
theorem xo_34 : ∀ pc q, xm_i 34 pc = some q → x_ok 34 pc q := x_ok_all (by decide +kernel)
set_option maxRecDepth 100000 in
theorem xo_35 : ∀ pc q, xm_i 35 pc = some q → x_ok 35 pc q := x_ok_all (by decide +kernel)
set_option maxRecDepth 100000 in
theorem xo_36 : ∀ pc q, xm_i 36 pc = some q → x_ok 36 pc q := x_ok_all (by decide +kernel)
set_option maxRecDepth 100000 in
theorem xo_37 : ∀ pc q, xm_i 37 pc = some q → x_ok 37 pc q := x_ok_all (by decide +kernel)
set_option maxRecDepth 100000 in
theorem xo_38 : ∀ pc q, xm_i 38 pc = some q → x_ok 38 pc q := x_ok_all (by decide +kernel)
set_option maxRecDepth 100000 in
theorem xo_39 : ∀ pc q, xm_i 39 pc = some q → x_ok 39 pc q := x_ok_all (by decide +kernel)
set_option maxRecDepth 100000 in
theorem xo_40 : ∀ pc q, xm_i 40 pc = some q → x_ok 40 pc q := x_ok_all (by decide +kernel)
set_option maxRecDepth 100000 in
theorem xo_41 : ∀ pc q, xm_i 41 pc = some q → x_ok 41 pc q := x_ok_all (by decide +kernel)
set_option maxRecDepth 100000 in
theorem xo_42 : ∀ pc q, xm_i 42 pc = some q → x_ok 42 pc q := x_ok_all (by decide +kernel)
set_option maxRecDepth 100000 in
theorem xo_43 : ∀ pc q, xm_i 43 pc = some q → x_ok 43 pc q := x_ok_all (by decide +kernel)
set_option maxRecDepth 100000 in
theorem xo_44 : ∀ pc q, xm_i 44 pc = some q → x_ok 44 pc q := x_ok_all (by decide +kernel)
set_option maxRecDepth 100000 in
theorem xo_45 : ∀ pc q, xm_i 45 pc = some q → x_ok 45 pc q := x_ok_all (by decide +kernel)
set_option maxRecDepth 100000 in
theorem xo_46 : ∀ pc q, xm_i 46 pc = some q → x_ok 46 pc q := x_ok_all (by decide +kernel)
set_option maxRecDepth 100000 in
theorem xo_47 : ∀ pc q, xm_i 47 pc = some q → x_ok 47 pc q := x_ok_all (by decide +kernel)
set_option maxRecDepth 100000 in
theorem xo_48 : ∀ pc q, xm_i 48 pc = some q → x_ok 48 pc q := x_ok_all (by decide +kernel)
set_option maxRecDepth 100000 in
theorem xo_49 : ∀ pc q, xm_i 49 pc = some q → x_ok 49 pc q := x_ok_all (by decide +kernel)
set_option maxRecDepth 100000 in
theorem xo_50 : ∀ pc q, xm_i 50 pc = some q → x_ok 50 pc q := x_ok_all (by decide +kernel)
set_option maxRecDepth 100000 in
theorem xo_51 : ∀ pc q, xm_i 51 pc = some q → x_ok 51 pc q := x_ok_all (by decide +kernel)
set_option maxRecDepth 100000 in
theorem xo_52 : ∀ pc q, xm_i 52 pc = some q → x_ok 52 pc q := x_ok_all (by decide +kernel)
set_option maxRecDepth 100000 in
theorem xo_53 : ∀ pc q, xm_i 53 pc = some q → x_ok 53 pc q := x_ok_all (by decide +kernel)
set_option maxRecDepth 100000 in
theorem xo_54 : ∀ pc q, xm_i 54 pc = some q → x_ok 54 pc q := x_ok_all (by decide +kernel)
set_option maxRecDepth 100000 in
theorem xo_55 : ∀ pc q, xm_i 55 pc = some q → x_ok 55 pc q := x_ok_all (by decide +kernel)
set_option maxRecDepth 100000 in
theorem xo_56 : ∀ pc q, xm_i 56 pc = some q → x_ok 56 pc q := x_ok_all (by decide +kernel)
set_option maxRecDepth 100000 in
theorem xo_57 : ∀ pc q, xm_i 57 pc = some q → x_ok 57 pc q := x_ok_all (by decide +kernel)
set_option maxRecDepth 100000 in
theorem xo_58 : ∀ pc q, xm_i 58 pc = some q → x_ok 58 pc q := x_ok_all (by decide +kernel)
set_option maxRecDepth 100000 in
theorem xo_59 : ∀ pc q, xm_i 59 pc = some q → x_ok 59 pc q := x_ok_all (by decide +kernel)
set_option maxRecDepth 100000 in
theorem xo_60 : ∀ pc q, xm_i 60 pc = some q → x_ok 60 pc q := x_ok_all (by decide +kernel)
end
section
set_option maxRecDepth 100000 in
theorem xo_61 : ∀ pc q, xm_i 61 pc = some q → x_ok 61 pc q := x_ok_all (by decide +kernel)
set_option maxRecDepth 100000 in
theorem xo_62 : ∀ pc q, xm_i 62 pc = some q → x_ok 62 pc q := x_ok_all (by decide +kernel)
set_option maxRecDepth 100000 in
theorem xo_63 : ∀ pc q, xm_i 63 pc = some q → x_ok 63 pc q := x_ok_all (by decide +kernel)
set_option maxRecDepth 100000 in
theorem xo_64 : ∀ pc q, xm_i 64 pc = some q → x_ok 64 pc q := x_ok_all (by decide +kernel)
set_option maxRecDepth 100000 in
theorem xo_65 : ∀ pc q, xm_i 65 pc = some q → x_ok 65 pc q := x_ok_all (by decide +kernel)
set_option maxRecDepth 100000 in
theorem xo_66 : ∀ pc q, xm_i 66 pc = some q → x_ok 66 pc q := x_ok_all (by decide +kernel)
set_option maxRecDepth 100000 in
theorem xo_67 : ∀ pc q, xm_i 67 pc = some q → x_ok 67 pc q := x_ok_all (by decide +kernel)
set_option maxRecDepth 100000 in
theorem xo_68 : ∀ pc q, xm_i 68 pc = some q → x_ok 68 pc q := x_ok_all (by decide +kernel)
set_option maxRecDepth 100000 in
theorem xo_69 : ∀ pc q, xm_i 69 pc = some q → x_ok 69 pc q := x_ok_all (by decide +kernel)
set_option maxRecDepth 100000 in
theorem xo_70 : ∀ pc q, xm_i 70 pc = some q → x_ok 70 pc q := x_ok_all (by decide +kernel)
set_option maxRecDepth 100000 in
theorem xo_71 : ∀ pc q, xm_i 71 pc = some q → x_ok 71 pc q := x_ok_all (by decide +kernel)
set_option maxRecDepth 100000 in
theorem xo_72 : ∀ pc q, xm_i 72 pc = some q → x_ok 72 pc q := x_ok_all (by decide +kernel)
set_option maxRecDepth 100000 in
theorem xo_73 : ∀ pc q, xm_i 73 pc = some q → x_ok 73 pc q := x_ok_all (by decide +kernel)
set_option maxRecDepth 100000 in
theorem xo_74 : ∀ pc q, xm_i 74 pc = some q → x_ok 74 pc q := x_ok_all (by decide +kernel)
set_option maxRecDepth 100000 in
theorem xo_75 : ∀ pc q, xm_i 75 pc = some q → x_ok 75 pc q := x_ok_all (by decide +kernel)
set_option maxRecDepth 100000 in
theorem xo_76 : ∀ pc q, xm_i 76 pc = some q → x_ok 76 pc q := x_ok_all (by decide +kernel)
set_option maxRecDepth 100000 in
theorem xo_77 : ∀ pc q, xm_i 77 pc = some q → x_ok 77 pc q := x_ok_all (by decide +kernel)
set_option maxRecDepth 100000 in
theorem xo_78 : ∀ pc q, xm_i 78 pc = some q → x_ok 78 pc q := x_ok_all (by decide +kernel)
set_option maxRecDepth 100000 in
theorem xo_79 : ∀ pc q, xm_i 79 pc = some q → x_ok 79 pc q := x_ok_all (by decide +kernel)
set_option maxRecDepth 100000 in
theorem xo_80 : ∀ pc q, xm_i 80 pc = some q → x_ok 80 pc q := x_ok_all (by decide +kernel)
set_option maxRecDepth 100000 in
theorem xo_81 : ∀ pc q, xm_i 81 pc = some q → x_ok 81 pc q := x_ok_all (by decide +kernel)
set_option maxRecDepth 100000 in
theorem xo_82 : ∀ pc q, xm_i 82 pc = some q → x_ok 82 pc q := x_ok_all (by decide +kernel)
set_option maxRecDepth 100000 in
theorem xo_83 : ∀ pc q, xm_i 83 pc = some q → x_ok 83 pc q := x_ok_all (by decide +kernel)
set_option maxRecDepth 100000 in
theorem xo_84 : ∀ pc q, xm_i 84 pc = some q → x_ok 84 pc q := x_ok_all (by decide +kernel)
set_option maxRecDepth 100000 in
theorem xo_85 : ∀ pc q, xm_i 85 pc = some q → x_ok 85 pc q := x_ok_all (by decide +kernel)
set_option maxRecDepth 100000 in
theorem xo_86 : ∀ pc q, xm_i 86 pc = some q → x_ok 86 pc q := x_ok_all (by decide +kernel)
set_option maxRecDepth 100000 in
theorem xo_87 : ∀ pc q, xm_i 87 pc = some q → x_ok 87 pc q := x_ok_all (by decide +kernel)
set_option maxRecDepth 100000 in
theorem xo_88 : ∀ pc q, xm_i 88 pc = some q → x_ok 88 pc q := x_ok_all (by decide +kernel)
set_option maxRecDepth 100000 in
theorem xo_89 : ∀ pc q, xm_i 89 pc = some q → x_ok 89 pc q := x_ok_all (by decide +kernel)
end
section
set_option maxRecDepth 100000 in
theorem xo_90 : ∀ pc q, xm_i 90 pc = some q → x_ok 90 pc q := x_ok_all (by decide +kernel)
set_option maxRecDepth 100000 in
theorem xo_91 : ∀ pc q, xm_i 91 pc = some q → x_ok 91 pc q := x_ok_all (by decide +kernel)
set_option maxRecDepth 100000 in
theorem xo_92 : ∀ pc q, xm_i 92 pc = some q → x_ok 92 pc q := x_ok_all (by decide +kernel)
set_option maxRecDepth 100000 in
theorem xo_93 : ∀ pc q, xm_i 93 pc = some q → x_ok 93 pc q := x_ok_all (by decide +kernel)
set_option maxRecDepth 100000 in
theorem xo_94 : ∀ pc q, xm_i 94 pc = some q → x_ok 94 pc q := x_ok_all (by decide +kernel)
set_option maxRecDepth 100000 in
theorem xo_95 : ∀ pc q, xm_i 95 pc = some q → x_ok 95 pc q := x_ok_all (by decide +kernel)
set_option maxRecDepth 100000 in
theorem xo_96 : ∀ pc q, xm_i 96 pc = some q → x_ok 96 pc q := x_ok_all (by decide +kernel)
set_option maxRecDepth 100000 in
theorem xo_97 : ∀ pc q, xm_i 97 pc = some q → x_ok 97 pc q := x_ok_all (by decide +kernel)
set_option maxRecDepth 100000 in
theorem xo_98 : ∀ pc q, xm_i 98 pc = some q → x_ok 98 pc q := x_ok_all (by decide +kernel)
set_option maxRecDepth 100000 in
theorem xo_99 : ∀ pc q, xm_i 99 pc = some q → x_ok 99 pc q := x_ok_all (by decide +kernel)
set_option maxRecDepth 100000 in
theorem xo_100 : ∀ pc q, xm_i 100 pc = some q → x_ok 100 pc q := x_ok_all (by decide +kernel)
set_option maxRecDepth 100000 in
theorem xo_101 : ∀ pc q, xm_i 101 pc = some q → x_ok 101 pc q := x_ok_all (by decide +kernel)
end
section
set_option maxRecDepth 100000 in
theorem xo_102 : ∀ pc q, xm_i 102 pc = some q → x_ok 102 pc q := x_ok_all (by decide +kernel)
set_option maxRecDepth 100000 in
theorem xo_103 : ∀ pc q, xm_i 103 pc = some q → x_ok 103 pc q := x_ok_all (by decide +kernel)
set_option maxRecDepth 100000 in
theorem xo_104 : ∀ pc q, xm_i 104 pc = some q → x_ok 104 pc q := x_ok_all (by decide +kernel)
set_option maxRecDepth 100000 in
theorem xo_105 : ∀ pc q, xm_i 105 pc = some q → x_ok 105 pc q := x_ok_all (by decide +kernel)
set_option maxRecDepth 100000 in
theorem xo_106 : ∀ pc q, xm_i 106 pc = some q → x_ok 106 pc q := x_ok_all (by decide +kernel)
set_option maxRecDepth 100000 in
theorem xo_107 : ∀ pc q, xm_i 107 pc = some q → x_ok 107 pc q := x_ok_all (by decide +kernel)
set_option maxRecDepth 100000 in
theorem xo_108 : ∀ pc q, xm_i 108 pc = some q → x_ok 108 pc q := x_ok_all (by decide +kernel)
set_option maxRecDepth 100000 in
theorem xo_109 : ∀ pc q, xm_i 109 pc = some q → x_ok 109 pc q := x_ok_all (by decide +kernel)
set_option maxRecDepth 100000 in
theorem xo_110 : ∀ pc q, xm_i 110 pc = some q → x_ok 110 pc q := x_ok_all (by decide +kernel)
set_option maxRecDepth 100000 in
theorem xo_111 : ∀ pc q, xm_i 111 pc = some q → x_ok 111 pc q := x_ok_all (by decide +kernel)
set_option maxRecDepth 100000 in
theorem xo_112 : ∀ pc q, xm_i 112 pc = some q → x_ok 112 pc q := x_ok_all (by decide +kernel)
set_option maxRecDepth 100000 in
theorem xo_113 : ∀ pc q, xm_i 113 pc = some q → x_ok 113 pc q := x_ok_all (by decide +kernel)
set_option maxRecDepth 100000 in
theorem xo_114 : ∀ pc q, xm_i 114 pc = some q → x_ok 114 pc q := x_ok_all (by decide +kernel)
set_option maxRecDepth 100000 in
theorem xo_115 : ∀ pc q, xm_i 115 pc = some q → x_ok 115 pc q := x_ok_all (by decide +kernel)
set_option maxRecDepth 100000 in
theorem xo_116 : ∀ pc q, xm_i 116 pc = some q → x_ok 116 pc q := x_ok_all (by decide +kernel)
set_option maxRecDepth 100000 in
theorem xo_117 : ∀ pc q, xm_i 117 pc = some q → x_ok 117 pc q := x_ok_all (by decide +kernel)
set_option maxRecDepth 100000 in
theorem xo_118 : ∀ pc q, xm_i 118 pc = some q → x_ok 118 pc q := x_ok_all (by decide +kernel)
set_option maxRecDepth 100000 in
theorem xo_119 : ∀ pc q, xm_i 119 pc = some q → x_ok 119 pc q := x_ok_all (by decide +kernel)
set_option maxRecDepth 100000 in
theorem xo_120 : ∀ pc q, xm_i 120 pc = some q → x_ok 120 pc q := x_ok_all (by decide +kernel)
set_option maxRecDepth 100000 in
theorem xo_121 : ∀ pc q, xm_i 121 pc = some q → x_ok 121 pc q := x_ok_all (by decide +kernel)
end
section
set_option maxRecDepth 100000 in
theorem xo_122 : ∀ pc q, xm_i 122 pc = some q → x_ok 122 pc q := x_ok_all (by decide +kernel)
set_option maxRecDepth 100000 in
theorem xo_123 : ∀ pc q, xm_i 123 pc = some q → x_ok 123 pc q := x_ok_all (by decide +kernel)
set_option maxRecDepth 100000 in
theorem xo_124 : ∀ pc q, xm_i 124 pc = some q → x_ok 124 pc q := x_ok_all (by decide +kernel)
end
section
theorem x_us (ci : Nat) (h : ci < 6) : ∀ w ∈ u_ws (xc_n ci) (xc_T ci) (xc_N ci), w ∈ xG := by
  match ci, h with
  | 0, _ => exact x_us_0
  | 1, _ => exact x_us_1
  | 2, _ => exact x_us_2
  | 3, _ => exact x_us_3
  | 4, _ => exact x_us_4
  | 5, _ => exact x_us_5
  | n + 6, h => omega
theorem x_cl6 {ci : Nat} {q : vw_C} (h : xcl[ci]? = some q) : ci < 6 := (List.getElem?_eq_some_iff.mp h).1
theorem x_nmo (ci : Nat) (h : ci < 6) : ∀ a, a < xc_N ci → ∀ b, b < xc_N ci → a ≠ b → (xc_T ci a).2.1 ≠ (xc_T ci b).2.1 := by
  match ci, h with
  | 0, _ => exact nmX0
  | 1, _ => exact nmX1
  | 2, _ => exact nmX2
  | 3, _ => exact nmX3
  | 4, _ => exact nmX4
  | 5, _ => exact nmX5
  | n + 6, h => omega
theorem x_tyo (ci : Nat) (h : ci < 6) : ∀ k, k < xc_N ci → parseFieldDescriptor (xc_T ci k).2.2.1 = some (xc_t ci k) := by
  match ci, h with
  | 0, _ => exact tyX0_ok
  | 1, _ => exact tyX1_ok
  | 2, _ => exact tyX2_ok
  | 3, _ => exact tyX3_ok
  | 4, _ => exact tyX4_ok
  | 5, _ => exact tyX5_ok
  | n + 6, h => omega
/-! THE JUDGEMENT V: method k, at pc, with locals ls, stack st and world w, comes to its end with Q -/
def x_XO (X : Option (Nat × (Nat → Int32))) (A : Nat → Prop) (s : State) (ad : Nat → Nat) : Prop := match X with
  | none => True
  | some q => va_X (ad 999) q.1 q.2 s s.heap ∧ ad 999 < s.heap.size ∧ ¬ A (ad 999)
def x_ret (r : Option FieldType) (v : Option Value) (ins : Instr) : Prop := match r, v, ins with
  | none, none, .return_ => True
  | some .int, some (.int _), .ireturn => True
  | some .boolean, some (.int x), .ireturn => narrow .boolean (.int x) = .int x
  | some .long, some (.long _), .lreturn => True
  | _, _, _ => False
def x_CX (k : Nat) (p : Program) (s : State) (m : MethodId) (args : Array Value) (meth : Method) (c : Code) (D : va_G) (cI cZ : ClassId) (A : Nat → Prop) : Prop :=
  p.tables.exec = Jvm.exec ∧ c.code = xm_b k ∧ c.maxLocals = xm_L k ∧ s.vm.findClass (xm_o k) = some m.cls ∧ (∀ w ∈ xG, w.before args s = true) ∧ va_K D xcl [(cI, .int), (cZ, .boolean)] s ∧ (∀ q, s.heap.size ≤ q → A q) ∧ (∀ w ∈ x_nest, va_Nw w s) ∧ (xm_n k = true → meth.name = "<init>") ∧ ∀ pc q, xm_i k pc = some q → x_ok k pc q
def x_G (X : Option (Nat × (Nat → Int32))) (k : Nat) (D : va_G) (cI cZ : ClassId) (A : Nat → Prop) (s : State) (ad0 : Nat → Nat) (n0 : Nat) (ad : Nat → Nat) (w : xW) (H : Heap) (locs : List Loc) : Prop :=
  va_P D xcl (x_rl cI cZ ad 0 w) H ∧ va_D A (x_rl cI cZ ad 0 w) ∧ va_S A s.heap H locs ∧ (xm_a k = false → ad = ad0) ∧ x_ag n0 ad0 ad ∧ n0 ≤ w.length ∧ x_XO X A s ad
def V (X : Option (Nat × (Nat → Int32))) (k : Nat) (Q : Option Value → xW → Prop) (n : Nat × Nat) (pc : Nat) (ls : xL) (st : List Value) (w : xW) : Prop :=
  ∀ (p : Program) (l : Launch) (e : Env) (s : State) (m : MethodId) (args : Array Value) (below : List Frame) (meth : Method) (c : Code) (D : va_G) (cI cZ : ClassId) (A : Nat → Prop) (QQ : State → Prop) (ad0 : Nat → Nat) (n0 : Nat),
    x_CX k p s m args meth c D cI cZ A →
    (∀ (v : Option Value) (w : xW) (ad : Nat → Nat) (H : Heap) (locs : List Loc) (La : Array Slot) (pc : Nat) (ins : Instr), x_ret (xm_r k) v ins → decode (xm_b k) pc = .ok (ins, 1) → Q v w → x_G X k D cI cZ A s ad0 n0 ad w H locs → W p l e (xm_R k) s m args below meth c H locs (xm_R k).cells (xm_R k).slots QQ (F0 m pc La ((v.map (x_tr ad)).toList))) →
    ∀ (ad : Nat → Nat) (H : Heap) (locs : List Loc) (La : Array Slot), x_G X k D cI cZ A s ad0 n0 ad w H locs → lv_has La (xm_L k) (ls.map (x_trp ad)) →
      W p l e (xm_R k) s m args below meth c H locs n.1 n.2 QQ (F0 m pc La (st.map (x_tr ad)))
section VR
variable {X : Option (Nat × (Nat → Int32))} {k : Nat} {Q : Option Value → xW → Prop} {n : Nat × Nat} {pc nx a b : Nat} {ls : xL} {st : List Value} {w : xW} {ins : Instr}
/-- a row that changes the stack alone -/
theorem V.keep {st' : List Value} (hd : xm_i k pc = some (ins, nx, a, b)) (kk : V X k Q n nx ls st' w)
    (h : ∀ {p : Program} {l : Launch} {e : Env} {R : Room} {s : State} {m : MethodId} {args : Array Value} {below : List Frame} {meth : Method} {c : Code} {H : Heap} {locs : List Loc} {cells slots : Nat} {QQ : State → Prop} {La : Array Slot} {D : va_G} {cI cZ : ClassId} {A : Nat → Prop} (ad : Nat → Nat), x_CX k p s m args meth c D cI cZ A → decode (xm_b k) pc = .ok (ins, x_len ins b) → x_ex k pc ins a b →
      W p l e R s m args below meth c H locs cells slots QQ (F0 m (pc + x_len ins b) La (st'.map (x_tr ad))) → W p l e R s m args below meth c H locs cells slots QQ (F0 m pc La (st.map (x_tr ad))))
    : V X k Q n pc ls st w := by
  intro p l e s m args below meth c D cI cZ A QQ ad0 n0 C hR ad H locs La hG hl
  obtain ⟨hdc, hnx, hex⟩ := C.2.2.2.2.2.2.2.2.2 pc _ hd
  dsimp only at hdc hnx hex
  subst hnx
  exact h ad C hdc hex (kk p l e s m args below meth c D cI cZ A QQ ad0 n0 C hR ad H locs La hG hl)
/-- a row that reads a local -/
theorem V.load {v : Value} {i : Nat} (hd : xm_i k pc = some (ins, nx, a, b)) (hv : x_lk i ls = some v)
    (h : ∀ {p : Program} {l : Launch} {e : Env} {R : Room} {s : State} {m : MethodId} {args : Array Value} {below : List Frame} {meth : Method} {c : Code} {H : Heap} {locs : List Loc} {cells slots : Nat} {QQ : State → Prop} {La : Array Slot} {D : va_G} {cI cZ : ClassId} {A : Nat → Prop} (ad : Nat → Nat), x_CX k p s m args meth c D cI cZ A → decode (xm_b k) pc = .ok (ins, x_len ins b) → La[i]? = some (.val (x_tr ad v)) →
      W p l e R s m args below meth c H locs cells slots QQ (F0 m (pc + x_len ins b) La (x_tr ad v :: st.map (x_tr ad))) → W p l e R s m args below meth c H locs cells slots QQ (F0 m pc La (st.map (x_tr ad))))
    (kk : V X k Q n nx ls (v :: st) w) : V X k Q n pc ls st w := by
  intro p l e s m args below meth c D cI cZ A QQ ad0 n0 C hR ad H locs La hG hl
  obtain ⟨hdc, hnx, hex⟩ := C.2.2.2.2.2.2.2.2.2 pc _ hd
  dsimp only at hdc hnx hex
  subst hnx
  exact h ad C hdc (x_has_at hl hv) (kk p l e s m args below meth c D cI cZ A QQ ad0 n0 C hR ad H locs La hG hl)
/-- a row that writes a local of one word -/
theorem V.store {v : Value} {i : Nat} {st' : List Value} (hd : xm_i k pc = some (ins, nx, a, b)) (hc : x_c2 v = false)
    (h : ∀ {p : Program} {l : Launch} {e : Env} {R : Room} {s : State} {m : MethodId} {args : Array Value} {below : List Frame} {meth : Method} {c : Code} {H : Heap} {locs : List Loc} {cells slots : Nat} {QQ : State → Prop} {La : Array Slot} {D : va_G} {cI cZ : ClassId} {A : Nat → Prop} (ad : Nat → Nat), x_CX k p s m args meth c D cI cZ A → decode (xm_b k) pc = .ok (ins, x_len ins b) → x_ex k pc ins a b → lv_has La (xm_L k) (ls.map (x_trp ad)) →
      (∀ La' : Array Slot, lv_has La' (xm_L k) ((i, x_tr ad v) :: (ls.map (x_trp ad)).filter (fun q => !(q.1 == i) && !(q.1 + 1 == i && q.2.category == 2))) → W p l e R s m args below meth c H locs cells slots QQ (F0 m (pc + x_len ins b) La' (st'.map (x_tr ad)))) → W p l e R s m args below meth c H locs cells slots QQ (F0 m pc La (st.map (x_tr ad))))
    (kk : V X k Q n nx (x_st i v ls) st' w) : V X k Q n pc ls st w := by
  intro p l e s m args below meth c D cI cZ A QQ ad0 n0 C hR ad H locs La hG hl
  obtain ⟨hdc, hnx, hex⟩ := C.2.2.2.2.2.2.2.2.2 pc _ hd
  dsimp only at hdc hnx hex
  subst hnx
  exact h ad C hdc hex hl (fun La' h' => kk p l e s m args below meth c D cI cZ A QQ ad0 n0 C hR ad H locs La' hG (x_store1 (La := La) hc h'))
theorem V.store2 {v : Value} {i : Nat} {st' : List Value} (hd : xm_i k pc = some (ins, nx, a, b)) (hc : x_c2 v = true)
    (h : ∀ {p : Program} {l : Launch} {e : Env} {R : Room} {s : State} {m : MethodId} {args : Array Value} {below : List Frame} {meth : Method} {c : Code} {H : Heap} {locs : List Loc} {cells slots : Nat} {QQ : State → Prop} {La : Array Slot} {D : va_G} {cI cZ : ClassId} {A : Nat → Prop} (ad : Nat → Nat), x_CX k p s m args meth c D cI cZ A → decode (xm_b k) pc = .ok (ins, x_len ins b) → x_ex k pc ins a b → lv_has La (xm_L k) (ls.map (x_trp ad)) →
      (∀ La' : Array Slot, lv_has La' (xm_L k) ((i, x_tr ad v) :: (ls.map (x_trp ad)).filter (fun q => !(q.1 == i) && (!(q.1 == i + 1) && !(q.1 + 1 == i && q.2.category == 2)))) → W p l e R s m args below meth c H locs cells slots QQ (F0 m (pc + x_len ins b) La' (st'.map (x_tr ad)))) → W p l e R s m args below meth c H locs cells slots QQ (F0 m pc La (st.map (x_tr ad))))
    (kk : V X k Q n nx (x_st i v ls) st' w) : V X k Q n pc ls st w := by
  intro p l e s m args below meth c D cI cZ A QQ ad0 n0 C hR ad H locs La hG hl
  obtain ⟨hdc, hnx, hex⟩ := C.2.2.2.2.2.2.2.2.2 pc _ hd
  dsimp only at hdc hnx hex
  subst hnx
  exact h ad C hdc hex hl (fun La' h' => kk p l e s m args below meth c D cI cZ A QQ ad0 n0 C hR ad H locs La' hG (x_store2 (La := La) hc h'))
end VR
end
section
/-- what a simple instruction does: the next pc, locals, stack; none: not a simple one -/
def x_sp (ins : Instr) (nx a b : Nat) (ls : xL) (st : List Value) (w : xW) : Option (Nat × xL × List Value) := match ins with
  | .iconst i => x_cif i fun z => some (nx, ls, .int z :: st)
  | .bipush i => x_cif i fun z => some (nx, ls, .int z :: st)
  | .sipush i => x_cif i fun z => some (nx, ls, .int z :: st)
  | .lconst i => some (nx, ls, .long (lN i.val) :: st)
  | .ldc2_w _ => x_cLf a fun z => some (nx, ls, .long z :: st)
  | .iload_n i => match x_lk i.val ls with
    | some (.int x) => some (nx, ls, .int x :: st)
    | _ => none
  | .iload i => match x_lk i ls with
    | some (.int x) => some (nx, ls, .int x :: st)
    | _ => none
  | .lload_n i => match x_lk i.val ls with
    | some (.long x) => some (nx, ls, .long x :: st)
    | _ => none
  | .lload i => match x_lk i ls with
    | some (.long x) => some (nx, ls, .long x :: st)
    | _ => none
  | .aload_n i => match x_lk i.val ls with
    | some (.ref x) => some (nx, ls, .ref x :: st)
    | _ => none
  | .aload i => match x_lk i ls with
    | some (.ref x) => some (nx, ls, .ref x :: st)
    | _ => none
  | .istore_n i => match st with
    | .int x :: r => x_nf (x_st i.val (.int x) ls) fun ls' => some (nx, ls', r)
    | _ => none
  | .istore i => match st with
    | .int x :: r => x_nf (x_st i (.int x) ls) fun ls' => some (nx, ls', r)
    | _ => none
  | .lstore_n i => match st with
    | .long x :: r => x_nf (x_st i.val (.long x) ls) fun ls' => some (nx, ls', r)
    | _ => none
  | .lstore i => match st with
    | .long x :: r => x_nf (x_st i (.long x) ls) fun ls' => some (nx, ls', r)
    | _ => none
  | .astore_n i => match st with
    | .ref x :: r => x_nf (x_st i.val (.ref x) ls) fun ls' => some (nx, ls', r)
    | _ => none
  | .astore i => match st with
    | .ref x :: r => x_nf (x_st i (.ref x) ls) fun ls' => some (nx, ls', r)
    | _ => none
  | .iinc i d => match x_lk i ls with
    | some (.int x) => x_cif d fun z => x_nf (x_st i (.int (x + z)) ls) fun ls' => some (nx, ls', st)
    | _ => none
  | .iadd => match st with
    | .int y :: .int x :: r => some (nx, ls, .int (x + y) :: r)
    | _ => none
  | .isub => match st with
    | .int y :: .int x :: r => some (nx, ls, .int (x - y) :: r)
    | _ => none
  | .imul => match st with
    | .int y :: .int x :: r => some (nx, ls, .int (x * y) :: r)
    | _ => none
  | .iand => match st with
    | .int y :: .int x :: r => some (nx, ls, .int (x &&& y) :: r)
    | _ => none
  | .ishl => match st with
    | .int y :: .int x :: r => some (nx, ls, .int (x <<< (y &&& 31)) :: r)
    | _ => none
  | .ishr => match st with
    | .int y :: .int x :: r => some (nx, ls, .int (x >>> (y &&& 31)) :: r)
    | _ => none
  | .ineg => match st with
    | .int x :: r => some (nx, ls, .int (-x) :: r)
    | _ => none
  | .ladd => match st with
    | .long y :: .long x :: r => some (nx, ls, .long (x + y) :: r)
    | _ => none
  | .lmul => match st with
    | .long y :: .long x :: r => some (nx, ls, .long (x * y) :: r)
    | _ => none
  | .lcmp => match st with
    | .long y :: .long x :: r => some (nx, ls, .int (lg_cmp x y) :: r)
    | _ => none
  | .i2l => match st with
    | .int x :: r => some (nx, ls, .long x.toInt64 :: r)
    | _ => none
  | .dup => match st with
    | .int x :: r => some (nx, ls, .int x :: .int x :: r)
    | .ref x :: r => some (nx, ls, .ref x :: .ref x :: r)
    | _ => none
  | .goto _ => some (a, ls, st)
  | .getfield _ => match st with
    | .ref o :: r => match w[o]? with
      | some (.inr (ci, fs)) => bif Nat.beq ci a then (match fs[b]? with
        | some v => some (nx, ls, v :: r)
        | none => none) else none
      | _ => none
    | _ => none
  | .arraylength => match st with
    | .ref o :: r => match w[o]? with
      | some (.inl (_, m, _)) => some (nx, ls, .int (nI m) :: r)
      | _ => none
    | _ => none
  | _ => none
section VS
variable {X : Option (Nat × (Nat → Int32))} {k : Nat} {Q : Option Value → xW → Prop} {n : Nat × Nat} {pc nx a b : Nat} {ls : xL} {st : List Value} {w : xW} {ins : Instr}
theorem V.getf {o ci : Nat} {fs : List Value} {idx : Nat} {v : Value} (hd : xm_i k pc = some (.getfield idx, nx, ci, b)) (hw : w[o]? = some (.inr (ci, fs))) (hv : fs[b]? = some v) (kk : V X k Q n nx ls (v :: st) w) : V X k Q n pc ls (.ref o :: st) w := by
  intro p l e s m args below meth c D cI cZ A QQ ad0 n0 C hR ad H locs La hG hl
  obtain ⟨hdc, hnx, hex⟩ := C.2.2.2.2.2.2.2.2.2 pc _ hd
  dsimp only at hdc hnx hex
  subst hnx
  have kk := kk p l e s m args below meth c D cI cZ A QQ ad0 n0 C hR ad H locs La hG hl
  obtain ⟨hx, hb, hml, hown, hts, hK, hA, hN, hin, ok⟩ := C
  obtain ⟨hP, -⟩ := hG
  obtain ⟨hcl, hlt, hlink⟩ := x_fl_ok _ hex
  exact va_get (D := D) (ci := ci) (v := x_tr ad v) (fs := fs.map (x_tr ad)) (C := xc_n ci) (T := xc_T ci) (N := xc_N ci) hx hb hts (x_us ci (x_cl6 hcl)) hown hK hP o (x_rl_at hw) hcl b hlt (hts _ hlink) (fun _ h => h) (by rw [List.getElem?_map, hv]; rfl) hdc kk
theorem V.alen {o m : Nat} {z : Bool} {f : Nat → Int32} (hd : xm_i k pc = some (.arraylength, nx, a, b)) (hw : w[o]? = some (.inl (z, m, f))) (kk : V X k Q n nx ls (.int (nI m) :: st) w) : V X k Q n pc ls (.ref o :: st) w := by
  intro p l e s mm args below meth c D cI cZ A QQ ad0 n0 C hR ad H locs La hG hl
  obtain ⟨hdc, hnx, hex⟩ := C.2.2.2.2.2.2.2.2.2 pc _ hd
  dsimp only at hdc hnx hex
  subst hnx
  have kk := kk p l e s mm args below meth c D cI cZ A QQ ad0 n0 C hR ad H locs La hG hl
  obtain ⟨hx, hb, hml, hown, hts, hK, hA, hN, hin, ok⟩ := C
  obtain ⟨hP, -⟩ := hG
  cases z with
  | false => exact va_alen hx hb hK hP o 0 (x_rl_at hw) rfl rfl hdc kk
  | true => exact va_alen hx hb hK hP o 1 (x_rl_at hw) rfl rfl hdc kk
theorem V.iinc {i : Nat} {d : Int} {x : Int32} (hd : xm_i k pc = some (.iinc i d, nx, a, b)) (hv : x_lk i ls = some (.int x)) (kk : V X k Q n nx (x_st i (.int (x + x_ci d)) ls) st w) : V X k Q n pc ls st w := by
  intro p l e s m args below meth c D cI cZ A QQ ad0 n0 C hR ad H locs La hG hl
  obtain ⟨hdc, hnx, hex⟩ := C.2.2.2.2.2.2.2.2.2 pc _ hd
  dsimp only at hdc hnx hex
  subst hnx
  have hm : (i, Value.int x) ∈ ls.map (x_trp ad) := List.mem_map.mpr ⟨(i, .int x), x_lk_mem hv, rfl⟩
  obtain ⟨j, hj⟩ := List.getElem?_of_mem hm
  exact lv_iinc (k := j) (v := x + x_ci d) C.1 C.2.1 hdc hl hj (by rw [hex.2]) hex.1 rfl (fun La' h' => kk p l e s m args below meth c D cI cZ A QQ ad0 n0 C hR ad H locs La' hG (x_store1 (La := La) (v := .int (x + x_ci d)) rfl h'))
theorem V.ldc2 {idx : Nat} (hd : xm_i k pc = some (.ldc2_w idx, nx, a, b)) (kk : V X k Q n nx ls (.long (x_cL a) :: st) w) : V X k Q n pc ls st w :=
  V.keep hd kk (fun ad C hdc hex q => lv_ldc2 C.1 C.2.1 C.2.2.2.1 (C.2.2.2.2.1 _ (x_cl_ok _ hex)) hdc q)
/-- one simple instruction -/
theorem V.step (hd : xm_i k pc = some (ins, nx, a, b)) {S : Nat × xL × List Value} (hs : x_sp ins nx a b ls st w = some S) (kk : V X k Q n S.1 S.2.1 S.2.2 w) : V X k Q n pc ls st w := by
  unfold x_sp at hs
  split at hs
  · rw [x_cif_eq] at hs; cases hs; exact V.keep hd kk (fun ad C hdc hex q => lv_iconst C.1 C.2.1 hdc hex q)
  · rw [x_cif_eq] at hs; cases hs; exact V.keep hd kk (fun ad C hdc hex q => lv_bipush C.1 C.2.1 hdc hex q)
  · rw [x_cif_eq] at hs; cases hs; exact V.keep hd kk (fun ad C hdc hex q => lv_sipush C.1 C.2.1 hdc hex q)
  · cases hs; exact V.keep hd kk (fun ad C hdc hex q => lv_lconst C.1 C.2.1 hdc rfl q)
  · rw [x_cLf_eq] at hs; cases hs; exact V.ldc2 hd kk
  · split at hs
    · rename_i hl; cases hs; exact V.load hd hl (fun ad C hdc hv q => lv_iload_n C.1 C.2.1 hdc rfl hv q) kk
    · cases hs
  · split at hs
    · rename_i hl; cases hs; exact V.load hd hl (fun ad C hdc hv q => lv_iload C.1 C.2.1 hdc hv q) kk
    · cases hs
  · split at hs
    · rename_i hl; cases hs; exact V.load hd hl (fun ad C hdc hv q => lv_lload_n C.1 C.2.1 hdc rfl hv q) kk
    · cases hs
  · split at hs
    · rename_i hl; cases hs; exact V.load hd hl (fun ad C hdc hv q => lv_lload C.1 C.2.1 hdc hv q) kk
    · cases hs
  · split at hs
    · rename_i hl; cases hs; exact V.load hd hl (fun ad C hdc hv q => lv_aload_n C.1 C.2.1 hdc rfl hv q) kk
    · cases hs
  · split at hs
    · rename_i hl; cases hs; exact V.load hd hl (fun ad C hdc hv q => lv_aload C.1 C.2.1 hdc hv q) kk
    · cases hs
  · split at hs
    · rw [x_nf_eq] at hs; cases hs; exact V.store hd rfl (fun ad C hdc hex hl q => lv_istore_n C.1 C.2.1 hdc rfl hl hex rfl q) kk
    · cases hs
  · split at hs
    · rw [x_nf_eq] at hs; cases hs; exact V.store hd rfl (fun ad C hdc hex hl q => lv_istore C.1 C.2.1 hdc hl hex rfl q) kk
    · cases hs
  · split at hs
    · rw [x_nf_eq] at hs; cases hs; exact V.store2 hd rfl (fun ad C hdc hex hl q => lv_lstore_n C.1 C.2.1 hdc rfl hl hex rfl q) kk
    · cases hs
  · split at hs
    · rw [x_nf_eq] at hs; cases hs; exact V.store2 hd rfl (fun ad C hdc hex hl q => lv_lstore C.1 C.2.1 hdc hl hex rfl q) kk
    · cases hs
  · split at hs
    · rw [x_nf_eq] at hs; cases hs; exact V.store hd rfl (fun ad C hdc hex hl q => lv_astore_n C.1 C.2.1 hdc rfl hl hex rfl q) kk
    · cases hs
  · split at hs
    · rw [x_nf_eq] at hs; cases hs; exact V.store hd rfl (fun ad C hdc hex hl q => lv_astore C.1 C.2.1 hdc hl hex rfl q) kk
    · cases hs
  · split at hs
    · rename_i hl; rw [x_cif_eq, x_nf_eq] at hs; cases hs; exact V.iinc hd hl kk
    · cases hs
  · split at hs
    · cases hs; exact V.keep hd kk (fun ad C hdc hex q => lv_iadd C.1 C.2.1 hdc q)
    · cases hs
  · split at hs
    · cases hs; exact V.keep hd kk (fun ad C hdc hex q => lv_isub C.1 C.2.1 hdc q)
    · cases hs
  · split at hs
    · cases hs; exact V.keep hd kk (fun ad C hdc hex q => lv_imul C.1 C.2.1 hdc q)
    · cases hs
  · split at hs
    · cases hs; exact V.keep hd kk (fun ad C hdc hex q => lv_iand C.1 C.2.1 hdc q)
    · cases hs
  · split at hs
    · cases hs; exact V.keep hd kk (fun ad C hdc hex q => lv_ishl C.1 C.2.1 hdc q)
    · cases hs
  · split at hs
    · cases hs; exact V.keep hd kk (fun ad C hdc hex q => lv_ishr C.1 C.2.1 hdc q)
    · cases hs
  · split at hs
    · cases hs; exact V.keep hd kk (fun ad C hdc hex q => lv_ineg C.1 C.2.1 hdc q)
    · cases hs
  · split at hs
    · cases hs; exact V.keep hd kk (fun ad C hdc hex q => lv_ladd C.1 C.2.1 hdc q)
    · cases hs
  · split at hs
    · cases hs; exact V.keep hd kk (fun ad C hdc hex q => lv_lmul C.1 C.2.1 hdc q)
    · cases hs
  · split at hs
    · cases hs; exact V.keep hd kk (fun ad C hdc hex q => W.lcmp C.1 C.2.1 hdc q)
    · cases hs
  · split at hs
    · cases hs; exact V.keep hd kk (fun ad C hdc hex q => lv_i2l C.1 C.2.1 hdc rfl q)
    · cases hs
  · split at hs
    · cases hs; exact V.keep hd kk (fun ad C hdc hex q => lv_dup C.1 C.2.1 hdc rfl q)
    · cases hs; exact V.keep hd kk (fun ad C hdc hex q => lv_dup C.1 C.2.1 hdc rfl q)
    · cases hs
  · cases hs
    intro p l e s m args below meth c D cI cZ A QQ ad0 n0 C hR ad H locs La hG hl
    obtain ⟨hdc, hnx, hex⟩ := C.2.2.2.2.2.2.2.2.2 pc _ hd
    exact lv_goto C.1 C.2.1 hdc hex (kk p l e s m args below meth c D cI cZ A QQ ad0 n0 C hR ad H locs La hG hl)
  · split at hs
    · split at hs
      · rename_i hw
        rename_i ci fs
        cases hq : Nat.beq ci a with
        | false => rw [hq, cond_false] at hs; cases hs
        | true =>
          rw [hq, cond_true] at hs
          have := Nat.eq_of_beq_eq_true hq
          subst this
          split at hs
          · rename_i hv; cases hs; exact V.getf hd hw hv kk
          · cases hs
      · cases hs
    · cases hs
  · split at hs
    · split at hs
      · rename_i hw; cases hs; exact V.alen hd hw kk
      · cases hs
    · cases hs
  · cases hs
/-- as many simple instructions as there are -/
def x_run (k : Nat) : Nat → Nat → xL → List Value → xW → Nat × xL × List Value
  | 0, pc, ls, st, _ => (pc, ls, st)
  | f + 1, pc, ls, st, w => match xm_i k pc with
    | none => (pc, ls, st)
    | some (ins, nx, a, b) => match x_sp ins nx a b ls st w with
      | none => (pc, ls, st)
      | some (pc', ls', st') => x_run k f pc' ls' st' w
theorem V.run (f : Nat) : ∀ {pc : Nat} {ls : xL} {st : List Value} {pc' : Nat} {ls' : xL} {st' : List Value}, x_run k f pc ls st w = (pc', ls', st') → V X k Q n pc' ls' st' w → V X k Q n pc ls st w := by
  induction f with
  | zero => intro pc ls st pc' ls' st' h kk; cases h; exact kk
  | succ f ih =>
    intro pc ls st pc' ls' st' h kk
    unfold x_run at h
    split at h
    · cases h; exact kk
    · rename_i ins nx a b hq
      split at h
      · cases h; exact kk
      · rename_i pc1 ls1 st1 hS
        exact V.step hq hS (ih h kk)
end VS
end
section
def x_br (ins : Instr) (st : List Value) : Option (Prop × List Value) := match ins with
  | .ifCond c _ => match st with
    | .int x :: r => match c with
      | .eq => some (x = 0, r)
      | .ne => some (¬ x = 0, r)
      | .lt => some (x < 0, r)
      | .ge => some (0 ≤ x, r)
      | .gt => some (0 < x, r)
      | .le => some (x ≤ 0, r)
    | _ => none
  | .if_icmp c _ => match st with
    | .int y :: .int x :: r => match c with
      | .eq => some (x = y, r)
      | .ne => some (¬ x = y, r)
      | .lt => some (x < y, r)
      | .ge => some (y ≤ x, r)
      | .gt => some (y < x, r)
      | .le => some (x ≤ y, r)
    | _ => none
  | _ => none
section VB
variable {X : Option (Nat × (Nat → Int32))} {k : Nat} {Q : Option Value → xW → Prop} {n : Nat × Nat} {pc nx a b : Nat} {ls : xL} {st : List Value} {w : xW} {ins : Instr}
theorem V.br {P : Prop} {r : List Value} (hd : xm_i k pc = some (ins, nx, a, b)) (hs : x_br ins st = some (P, r)) (kt : P → V X k Q n a ls r w) (kf : ¬ P → V X k Q n nx ls r w) : V X k Q n pc ls st w := by
  intro p l e s m args below meth c D cI cZ A QQ ad0 n0 C hR ad H locs La hG hl
  obtain ⟨hdc, hnx, hex⟩ := C.2.2.2.2.2.2.2.2.2 pc _ hd
  dsimp only at hdc hnx hex
  have kt := fun h => kt h p l e s m args below meth c D cI cZ A QQ ad0 n0 C hR ad H locs La hG hl
  have kf := fun h => kf h p l e s m args below meth c D cI cZ A QQ ad0 n0 C hR ad H locs La hG hl
  subst hnx
  unfold x_br at hs
  split at hs
  · split at hs
    · split at hs
      · cases hs; exact lv_if_eq C.1 C.2.1 hdc hex kt kf
      · cases hs; exact lv_if_ne C.1 C.2.1 hdc hex kt (fun h => kf (fun q => q h))
      · cases hs; exact lv_if_lt C.1 C.2.1 hdc hex kt kf
      · cases hs; exact lv_if_ge C.1 C.2.1 hdc hex kt kf
      · cases hs; exact lv_if_gt C.1 C.2.1 hdc hex kt kf
      · cases hs; exact lv_if_le C.1 C.2.1 hdc hex kt kf
    · cases hs
  · split at hs
    · split at hs
      · cases hs; exact lv_icmp_eq C.1 C.2.1 hdc hex kt kf
      · cases hs; exact lv_icmp_ne C.1 C.2.1 hdc hex kt (fun h => kf (fun q => q h))
      · cases hs; exact lv_icmp_lt C.1 C.2.1 hdc hex kt kf
      · cases hs; exact lv_icmp_ge C.1 C.2.1 hdc hex kt kf
      · cases hs; exact lv_icmp_gt C.1 C.2.1 hdc hex kt kf
      · cases hs; exact lv_icmp_le C.1 C.2.1 hdc hex kt kf
    · cases hs
  · cases hs
theorem V.idiv {x y : Int32} (hd : xm_i k pc = some (.idiv, nx, a, b)) (hy : ¬ y = 0) (kk : V X k Q n nx ls (.int (x / y) :: st) w) : V X k Q n pc ls (.int y :: .int x :: st) w :=
  V.keep hd kk (fun ad C hdc hex q => lv_idiv C.1 C.2.1 hdc hy q)
theorem V.irem {x y : Int32} (hd : xm_i k pc = some (.irem, nx, a, b)) (hy : ¬ y = 0) (kk : V X k Q n nx ls (.int (x - x / y * y) :: st) w) : V X k Q n pc ls (.int y :: .int x :: st) w :=
  V.keep hd kk (fun ad C hdc hex q => lv_irem C.1 C.2.1 hdc hy q)
theorem V.iald {o m j : Nat} {f : Nat → Int32} {i : Int32} (hd : xm_i k pc = some (.iaload, nx, a, b)) (hw : w[o]? = some (.inl (false, m, f))) (hi : i = nI j) (hj : j < m) (hm : m < 2 ^ 31) (kk : V X k Q n nx ls (.int (f j) :: st) w) : V X k Q n pc ls (.int i :: .ref o :: st) w := by
  intro p l e s mm args below meth c D cI cZ A QQ ad0 n0 C hR ad H locs La hG hl
  obtain ⟨hdc, hnx, hex⟩ := C.2.2.2.2.2.2.2.2.2 pc _ hd
  dsimp only at hdc hnx hex
  subst hnx; subst hi
  have kk := kk p l e s mm args below meth c D cI cZ A QQ ad0 n0 C hR ad H locs La hG hl
  refine va_iald C.1 C.2.1 C.2.2.2.2.2.1 hG.1 o 0 (x_rl_at hw) rfl (vp_in_nI hj hm) hdc ?_
  rw [nI_clamp (by omega)]
  exact kk
theorem V.zald {o m j : Nat} {f : Nat → Int32} {i : Int32} (hd : xm_i k pc = some (.baload, nx, a, b)) (hw : w[o]? = some (.inl (true, m, f))) (hi : i = nI j) (hj : j < m) (hm : m < 2 ^ 31) (kk : V X k Q n nx ls (.int (f j) :: st) w) : V X k Q n pc ls (.int i :: .ref o :: st) w := by
  intro p l e s mm args below meth c D cI cZ A QQ ad0 n0 C hR ad H locs La hG hl
  obtain ⟨hdc, hnx, hex⟩ := C.2.2.2.2.2.2.2.2.2 pc _ hd
  dsimp only at hdc hnx hex
  subst hnx; subst hi
  have kk := kk p l e s mm args below meth c D cI cZ A QQ ad0 n0 C hR ad H locs La hG hl
  refine va_zald C.1 C.2.1 C.2.2.2.2.2.1 hG.1 o 1 (x_rl_at hw) rfl (vp_in_nI hj hm) hdc ?_
  rw [nI_clamp (by omega)]
  exact kk
/-- a world with one cell changed -/
theorem x_G.set {D : va_G} {cI cZ : ClassId} {A : Nat → Prop} {s : State} {ad0 : Nat → Nat} {n0 : Nat} {ad : Nat → Nat} {H H1 : Heap} {locs locs1 : List Loc} {o : Nat} {e : xC} {w' : xW} (hG : x_G X k D cI cZ A s ad0 n0 ad w H locs) (hw : w.set o e = w')
    (h1 : va_P D xcl ((x_rl cI cZ ad 0 w).set o (ad o, x_trE cI cZ ad e)) H1) (h2 : va_D A ((x_rl cI cZ ad 0 w).set o (ad o, x_trE cI cZ ad e))) (h3 : va_S A s.heap H1 locs1) : x_G X k D cI cZ A s ad0 n0 ad w' H1 locs1 := by
  subst hw
  rw [x_rl_put] at h1 h2
  exact ⟨h1, h2, h3, hG.2.2.2.1, hG.2.2.2.2.1, by rw [List.length_set]; exact hG.2.2.2.2.2.1, hG.2.2.2.2.2.2⟩
theorem V.iast {o m j : Nat} {f : Nat → Int32} {i x : Int32} {w' : xW} (hd : xm_i k pc = some (.iastore, nx, a, b)) (hw : w[o]? = some (.inl (false, m, f))) (hi : i = nI j) (hj : j < m) (hm : m < 2 ^ 31) (hw' : w.set o (.inl (false, m, upd f j x)) = w') (kk : V X k Q n nx ls st w') : V X k Q n pc ls (.int x :: .int i :: .ref o :: st) w := by
  intro p l e s mm args below meth c D cI cZ A QQ ad0 n0 C hR ad H locs La hG hl
  obtain ⟨hdc, hnx, hex⟩ := C.2.2.2.2.2.2.2.2.2 pc _ hd
  dsimp only at hdc hnx hex
  subst hnx; subst hi
  refine va_iast C.1 C.2.1 C.2.2.2.2.2.1 hG.1 hG.2.1 hG.2.2.1 o 0 (x_rl_at hw) rfl (vp_in_nI hj hm) hdc (fun H1 locs1 h1 h2 h3 => ?_)
  rw [nI_clamp (by omega)] at h1 h2
  exact kk p l e s mm args below meth c D cI cZ A QQ ad0 n0 C hR ad H1 locs1 La (hG.set hw' h1 h2 h3) hl
theorem V.zast {o m j : Nat} {f : Nat → Int32} {i x : Int32} {w' : xW} (hd : xm_i k pc = some (.bastore, nx, a, b)) (hw : w[o]? = some (.inl (true, m, f))) (hi : i = nI j) (hj : j < m) (hm : m < 2 ^ 31) (hx : x = 0 ∨ x = 1) (hw' : w.set o (.inl (true, m, upd f j x)) = w') (kk : V X k Q n nx ls st w') : V X k Q n pc ls (.int x :: .int i :: .ref o :: st) w := by
  intro p l e s mm args below meth c D cI cZ A QQ ad0 n0 C hR ad H locs La hG hl
  obtain ⟨hdc, hnx, hex⟩ := C.2.2.2.2.2.2.2.2.2 pc _ hd
  dsimp only at hdc hnx hex
  subst hnx; subst hi
  have hx2 : vp_nar .boolean x = x := by rcases hx with rfl | rfl <;> decide
  refine va_zast C.1 C.2.1 C.2.2.2.2.2.1 hG.1 hG.2.1 hG.2.2.1 o 1 (x_rl_at hw) rfl (vp_in_nI hj hm) hdc (fun H1 locs1 h1 h2 h3 => ?_)
  rw [nI_clamp (by omega), hx2] at h1 h2
  exact kk p l e s mm args below meth c D cI cZ A QQ ad0 n0 C hR ad H1 locs1 La (hG.set hw' h1 h2 h3) hl
/-- the script -/
theorem V.sld {L j : Nat} {xs : Nat → Int32} {i : Int32} (hd : xm_i k pc = some (.iaload, nx, a, b)) (hi : i = nI j) (hj : j < L) (hm : L < 2 ^ 31) (kk : V (some (L, xs)) k Q n nx ls (.int (xs j) :: st) w) : V (some (L, xs)) k Q n pc ls (.int i :: .ref 999 :: st) w := by
  intro p l e s mm args below meth c D cI cZ A QQ ad0 n0 C hR ad H locs La hG hl
  obtain ⟨hdc, hnx, hex⟩ := C.2.2.2.2.2.2.2.2.2 pc _ hd
  dsimp only at hdc hnx hex
  subst hnx; subst hi
  have kk := kk p l e s mm args below meth c D cI cZ A QQ ad0 n0 C hR ad H locs La hG hl
  obtain ⟨q1, q2, q3⟩ := hG.2.2.2.2.2.2
  refine va_sld C.1 C.2.1 q1 q2 q3 hG.2.2.1 (vp_in_nI hj hm) hdc ?_
  rw [nI_clamp (by omega)]
  exact kk
theorem V.slen {L : Nat} {xs : Nat → Int32} (hd : xm_i k pc = some (.arraylength, nx, a, b)) (kk : V (some (L, xs)) k Q n nx ls (.int (nI L) :: st) w) : V (some (L, xs)) k Q n pc ls (.ref 999 :: st) w := by
  intro p l e s mm args below meth c D cI cZ A QQ ad0 n0 C hR ad H locs La hG hl
  obtain ⟨hdc, hnx, hex⟩ := C.2.2.2.2.2.2.2.2.2 pc _ hd
  dsimp only at hdc hnx hex
  subst hnx
  have kk := kk p l e s mm args below meth c D cI cZ A QQ ad0 n0 C hR ad H locs La hG hl
  obtain ⟨q1, q2, q3⟩ := hG.2.2.2.2.2.2
  exact va_slen C.1 C.2.1 q1 q2 q3 hG.2.2.1 hdc kk
/-- switches -/
theorem V.tableIn {dflt lo hi off : Int} {offs : Array Int} {x : Int32} {tgt : Nat} (hd : xm_i k pc = some (.tableswitch dflt lo hi offs, nx, a, b)) (h1 : ¬ x.toInt < lo) (h2 : ¬ hi < x.toInt) (ho : offs[(x.toInt - lo).toNat]? = some off) (ht : (pc : Int) + off = (tgt : Int)) (kk : V X k Q n tgt ls st w) : V X k Q n pc ls (.int x :: st) w := by
  intro p l e s mm args below meth c D cI cZ A QQ ad0 n0 C hR ad H locs La hG hl
  obtain ⟨hdc, hnx, hex⟩ := C.2.2.2.2.2.2.2.2.2 pc _ hd
  exact lv_tableIn C.1 C.2.1 hdc h1 h2 ho ht (kk p l e s mm args below meth c D cI cZ A QQ ad0 n0 C hR ad H locs La hG hl)
theorem V.tableOut {dflt lo hi : Int} {offs : Array Int} {x : Int32} {tgt : Nat} (hd : xm_i k pc = some (.tableswitch dflt lo hi offs, nx, a, b)) (h : x.toInt < lo ∨ hi < x.toInt) (ht : (pc : Int) + dflt = (tgt : Int)) (kk : V X k Q n tgt ls st w) : V X k Q n pc ls (.int x :: st) w := by
  intro p l e s mm args below meth c D cI cZ A QQ ad0 n0 C hR ad H locs La hG hl
  obtain ⟨hdc, hnx, hex⟩ := C.2.2.2.2.2.2.2.2.2 pc _ hd
  exact lv_tableOut C.1 C.2.1 hdc h ht (kk p l e s mm args below meth c D cI cZ A QQ ad0 n0 C hR ad H locs La hG hl)
theorem V.lookup {dflt off : Int} {ps : Array (Int × Int)} {x : Int32} {tgt : Nat} (hd : xm_i k pc = some (.lookupswitch dflt ps, nx, a, b)) (hp : (ps.toList.zip (ps.toList.drop 1)).all (fun (a, next) => a.1 < next.1) = true) (ho : Op.lookupswitch.offset ps.toList dflt x.toInt = off) (ht : (pc : Int) + off = (tgt : Int)) (kk : V X k Q n tgt ls st w) : V X k Q n pc ls (.int x :: st) w := by
  intro p l e s mm args below meth c D cI cZ A QQ ad0 n0 C hR ad H locs La hG hl
  obtain ⟨hdc, hnx, hex⟩ := C.2.2.2.2.2.2.2.2.2 pc _ hd
  exact lv_lookup C.1 C.2.1 hdc hp ho ht (kk p l e s mm args below meth c D cI cZ A QQ ad0 n0 C hR ad H locs La hG hl)
/-- ends -/
theorem V.ret {v : Option Value} (hd : xm_i k pc = some (ins, nx, a, b)) (hr : x_ret (xm_r k) v ins) (hn : n.1 ≤ (xm_R k).cells ∧ n.2 ≤ (xm_R k).slots) (hq : Q v w) : V X k Q n pc ls v.toList w := by
  intro p l e s mm args below meth c D cI cZ A QQ ad0 n0 C hR ad H locs La hG hl
  obtain ⟨hdc, hnx, hex⟩ := C.2.2.2.2.2.2.2.2.2 pc _ hd
  dsimp only at hdc
  have hlen : x_len ins b = 1 := by
    unfold x_ret at hr
    split at hr <;> first | rfl | cases hr
  rw [hlen] at hdc
  refine W.widen hn.1 hn.2 ?_
  have h := hR v w ad H locs La pc ins hr hdc hq hG
  cases v <;> exact h
theorem V.reti {x : Int32} (hd : xm_i k pc = some (.ireturn, nx, a, b)) (hr : xm_r k = some .int) (hn : n.1 ≤ (xm_R k).cells ∧ n.2 ≤ (xm_R k).slots) (hq : Q (some (.int x)) w) : V X k Q n pc ls [.int x] w :=
  V.ret (v := some (.int x)) hd (by rw [hr]; trivial) hn hq
theorem V.retz {x : Int32} (hd : xm_i k pc = some (.ireturn, nx, a, b)) (hr : xm_r k = some .boolean) (hn : n.1 ≤ (xm_R k).cells ∧ n.2 ≤ (xm_R k).slots) (hx : x = 0 ∨ x = 1) (hq : Q (some (.int x)) w) : V X k Q n pc ls [.int x] w :=
  V.ret (v := some (.int x)) hd (by rw [hr]; rcases hx with rfl | rfl <;> rfl) hn hq
theorem V.retl {x : Int64} (hd : xm_i k pc = some (.lreturn, nx, a, b)) (hr : xm_r k = some .long) (hn : n.1 ≤ (xm_R k).cells ∧ n.2 ≤ (xm_R k).slots) (hq : Q (some (.long x)) w) : V X k Q n pc ls [.long x] w :=
  V.ret (v := some (.long x)) hd (by rw [hr]; trivial) hn hq
theorem V.retv (hd : xm_i k pc = some (.return_, nx, a, b)) (hr : xm_r k = none) (hn : n.1 ≤ (xm_R k).cells ∧ n.2 ≤ (xm_R k).slots) (hq : Q none w) : V X k Q n pc ls [] w :=
  V.ret (v := none) hd (by rw [hr]; trivial) hn hq
/-- fewer locals -/
theorem V.locs {ls' : xL} (h : ∀ q ∈ ls', q ∈ ls) (kk : V X k Q n pc ls' st w) : V X k Q n pc ls st w := by
  intro p l e s mm args below meth c D cI cZ A QQ ad0 n0 C hR ad H locs La hG hl
  refine kk p l e s mm args below meth c D cI cZ A QQ ad0 n0 C hR ad H locs La hG ⟨hl.1, hl.2.1, fun q hq => hl.2.2 q ?_⟩
  obtain ⟨z, hz, rfl⟩ := List.mem_map.mp hq
  exact List.mem_map.mpr ⟨z, h z hz, rfl⟩
/-- an end that says more -/
theorem V.mono {Q' : Option Value → xW → Prop} (h : ∀ v w, Q' v w → Q v w) (kk : V X k Q' n pc ls st w) : V X k Q n pc ls st w := by
  intro p l e s mm args below meth c D cI cZ A QQ ad0 n0 C hR ad H locs La hG hl
  exact kk p l e s mm args below meth c D cI cZ A QQ ad0 n0 C (fun v w ad H locs La pc ins h1 h2 h3 h4 => hR v w ad H locs La pc ins h1 h2 (h v w h3) h4) ad H locs La hG hl
end VB
end
section
/-! THE CONTRACT Tot: method k, called with the values 'as' in the world w, ends with Q -/
def x_XU (X : Option (Nat × (Nat → Int32))) (A : Nat → Prop) (sz : Nat) (U : State) (ad : Nat → Nat) : Prop := match X with
  | none => True
  | some q => va_X (ad 999) q.1 q.2 U U.heap ∧ ad 999 < sz ∧ ¬ A (ad 999)
def x_PU (X : Option (Nat × (Nat → Int32))) (D : va_G) (cI cZ : ClassId) (ad : Nat → Nat) (w : xW) (sz : Nat) (U : State) : Prop :=
  U.heap.size = sz ∧ va_P D xcl (x_rl cI cZ ad 0 w) U.heap ∧ va_K D xcl [(cI, .int), (cZ, .boolean)] U ∧ va_D (fun _ => True) (x_rl cI cZ ad 0 w) ∧ (∀ w ∈ x_nest, va_Nw w U) ∧ x_XU X (va_A (x_rl cI cZ ad 0 w) sz) sz U ad
def x_QU (k : Nat) (D : va_G) (cI cZ : ClassId) (ad : Nat → Nat) (w : xW) (sz : Nat) (Q : Option Value → xW → Prop) : Array Value → State → Outcome → State → Prop := fun _ st o t =>
  (∃ (v : Option Value) (w' : xW) (ad' : Nat → Nat), o = .returned (v.map (x_tr ad')) ∧ Q v w' ∧ (xm_a k = false → ad' = ad) ∧ x_ag w.length ad ad' ∧ w.length ≤ w'.length ∧ va_P D xcl (x_rl cI cZ ad' 0 w') t.heap ∧ va_D (va_A (x_rl cI cZ ad 0 w) sz) (x_rl cI cZ ad' 0 w')) ∧ va_F (va_A (x_rl cI cZ ad 0 w) sz) st t
def Tot (X : Option (Nat × (Nat → Int32))) (k : Nat) (as : List Value) (w : xW) (Q : Option Value → xW → Prop) : Prop :=
  ∀ (l : Launch) (D : va_G) (cI cZ : ClassId) (ad : Nat → Nat) (sz : Nat), Met l (xm_y k) (xm_w k) (xm_R k) (va_Pc (as.map (x_tr ad)) (x_PU X D cI cZ ad w sz)) (x_QU k D cI cZ ad w sz Q) (xm_R k).cells (xm_R k).slots (va_A (x_rl cI cZ ad 0 w) sz)
theorem Tot.mono {X : Option (Nat × (Nat → Int32))} {k : Nat} {as : List Value} {w : xW} {Q Q' : Option Value → xW → Prop} (h : Tot X k as w Q) (hq : ∀ v w', Q v w' → Q' v w') : Tot X k as w Q' := by
  intro l D cI cZ ad sz
  intro p e ha hc hk s m args below hf happ hP hK
  obtain ⟨n, o, g1, g2, g3, ⟨⟨v, w', ad', h1, h2, h3⟩, h4⟩, h5⟩ := h l D cI cZ ad sz p e ha hc hk s m args below hf happ hP hK
  exact ⟨n, o, g1, g2, g3, ⟨⟨v, w', ad', h1, hq v w' h2, h3⟩, h4⟩, h5⟩
theorem x_sl_len (ad : Nat → Nat) (vs : List Value) : (lg_sl (vs.map (x_tr ad))).length = (lg_sl vs).length := by
  induction vs with
  | nil => rfl
  | cons v vs ih =>
    simp only [lg_sl, List.map_cons, List.flatMap_cons, List.length_append] at ih ⊢
    rw [ih, x_cat]
    split <;> rfl
/-- a method's contract out of the walk of its body -/
theorem Tot.of {X : Option (Nat × (Nat → Int32))} {k : Nat} {as : List Value} {w : xW} {Q : Option Value → xW → Prop} (ok : ∀ pc q, xm_i k pc = some q → x_ok k pc q) (hp : plainName (xm_y k).cls = true) (ho : xm_o k = (xm_y k).cls) (hn : xm_n k = true → (xm_y k).name = "<init>") (hL : (lg_sl as).length ≤ xm_L k)
    (h : V X k Q (0, 0) 0 (lv_args 0 as) [] w) : Tot X k as w Q := by
  intro l D cI cZ ad sz
  refine Met.ofW (cc := xm_b k) (maxL := xm_L k) (ret := xm_r k) hp rfl ?_
  intro p e s m args below meth c s₁ B hml hv
  obtain ⟨rfl, hsz, hP, hK, hD0, hN, hX⟩ := hv
  subst hsz
  have hown : s.vm.findClass (xm_o k) = some m.cls := by rw [ho]; exact findClass_of_methodNamed B.named
  have hts := atoms_spec (ws := xm_w k) B.pre
  have hD := hD0.self (sz := s.heap.size)
  have C : x_CX k p s m (as.map (x_tr ad)).toArray meth c D cI cZ (va_A (x_rl cI cZ ad 0 w) s.heap.size) :=
    ⟨B.exec, B.bytes, hml, hown, fun w h => hts w (List.mem_cons_of_mem _ h), hK, fun q h => Or.inr h, hN, fun h => ((name_of_methodNamed B.named B.method).1).trans (hn h), ok⟩
  have hl := lv_entry (as.map (x_tr ad)) (n := xm_L k) (by rw [x_sl_len]; exact hL)
  rw [lg_entry_eq]
  rw [x_args_tr] at hl
  refine h p l e s m _ below meth c D cI cZ _ _ ad w.length C ?_ ad s.heap [] _ ⟨hP, hD, va_S.rf, fun _ => rfl, x_ag.rf _ _, Nat.le_refl _, ?_⟩ hl
  · intro v w' ad' H locs La pc ins hr hdc hq hG
    obtain ⟨h1, h2, h3, h4, h5, h6, h7⟩ := hG
    have hret := B.returns
    have hlocks := B.notSynchronized
    have key : ∀ t : State, t.heap = H → s.WarmedH t.vm → x_QU k D cI cZ ad w s.heap.size Q (as.map (x_tr ad)).toArray s (.returned (v.map (x_tr ad'))) t := fun t ht hW =>
      ⟨⟨v, w', ad', rfl, hq, h4, h5, h6, by rw [ht]; exact h1, h2⟩, h3.F ht⟩
    unfold x_ret at hr
    split at hr
    · rename_i hr0
      exact W.vret B.exec B.bytes (hret.trans hr0) key h3.2.2 hdc
    · rename_i hr0
      exact W.iret B.exec B.bytes (hret.trans hr0) key h3.2.2 hdc
    · rename_i hr0
      exact W.zret B.exec B.bytes (hret.trans hr0) hr key h3.2.2 hdc
    · rename_i hr0
      exact W.lret B.exec B.bytes (hret.trans hr0) key h3.2.2 hdc
    · cases hr
  · cases X with
    | none => trivial
    | some q => exact hX

/-- the caller's words are the callee's -/
theorem x_good {j : Nat} (h : Cond.code (xm_y j) (xm_b j) (xm_L j) (xm_r j) ∈ xG) : GoodIn xG (xm_w j) := by
  intro w hw
  rcases List.mem_cons.mp hw with e | hw
  · subst e
    exact ⟨h, good_of_word rfl⟩
  · exact ⟨hw, good_of_word (List.mem_filter.mp hw).2⟩
theorem x_good_app {j : Nat} {l : List Cond} (h : Cond.code (xm_y j) (xm_b j) (xm_L j) (xm_r j) ∈ xG) (hl : ∀ w ∈ l, w ∈ xG) : GoodIn xG (l ++ xm_w j) := by
  intro w hw
  rcases List.mem_append.mp hw with h1 | h1
  · exact ⟨hl w h1, good_of_word (List.mem_filter.mp (hl w h1)).2⟩
  · exact x_good h w h1
theorem x_nest_form : ∀ w ∈ x_nest, ∃ o i y h, w = Cond.methodLinkNest o i y h := by
  intro w hw
  simp only [x_nest, List.mem_cons, List.not_mem_nil, or_false] at hw
  rcases hw with rfl | rfl | rfl | rfl <;> exact ⟨_, _, _, _, rfl⟩
theorem x_xcl {ci : Nat} (h : ci < 6) : xcl[ci]? = some (xc_n ci, xc_T ci, xc_N ci) := by
  match ci, h with
  | 0, _ => rfl
  | 1, _ => rfl
  | 2, _ => rfl
  | 3, _ => rfl
  | 4, _ => rfl
  | 5, _ => rfl
  | n + 6, h => omega
section VC
variable {X X' : Option (Nat × (Nat → Int32))} {k : Nat} {Q : Option Value → xW → Prop} {n : Nat × Nat} {pc nx a b : Nat} {ls : xL} {st : List Value} {w : xW} {ins : Instr}
/-- what must hold of the caller's values where the callee may make cells -/
def x_al (k j : Nat) (w : xW) (ls : xL) (rest : List Value) : Prop := xm_a j = false ∨ (xm_a k = true ∧ (ls.all (fun q => x_okv w.length q.2) = true ∧ rest.all (x_okv w.length) = true))
/-- behind a call -/
theorem x_after {p : Program} {l : Launch} {e : Env} {s : State} {m : MethodId} {args : Array Value} {below : List Frame} {meth : Method} {c : Code} {D : va_G} {cI cZ : ClassId} {A : Nat → Prop} {QQ : State → Prop} {ad0 : Nat → Nat} {n0 : Nat} {ad : Nat → Nat} {H : Heap} {locs : List Loc} {La : Array Slot} {j : Nat} {rest : List Value} {Qj : Option Value → xW → Prop} {stk : List Value} {aa : Array Value}
    (C : x_CX k p s m args meth c D cI cZ A)
    (hR : ∀ (v : Option Value) (w : xW) (ad : Nat → Nat) (H : Heap) (locs : List Loc) (La : Array Slot) (pc : Nat) (ins : Instr), x_ret (xm_r k) v ins → decode (xm_b k) pc = .ok (ins, 1) → Q v w → x_G X k D cI cZ A s ad0 n0 ad w H locs → W p l e (xm_R k) s m args below meth c H locs (xm_R k).cells (xm_R k).slots QQ (F0 m pc La ((v.map (x_tr ad)).toList)))
    (hG : x_G X k D cI cZ A s ad0 n0 ad w H locs) (hl : lv_has La (xm_L k) (ls.map (x_trp ad)))
    (hal : x_al k j w ls rest)
    (hr : va_Run p l e (xm_R k) s m args below meth c H locs n.1 n.2 (xm_R j).cells (xm_R j).slots (F0 m pc La stk) (rest.map (x_tr ad)) (x_QU j D cI cZ ad w H.size Qj aa) (va_A (x_rl cI cZ ad 0 w) H.size))
    (kk : ∀ v w', Qj v w' → V X k Q (n.1 + (xm_R j).cells, n.2 + (xm_R j).slots) (pc + 3) ls (v.toList ++ rest) w') :
    W p l e (xm_R k) s m args below meth c H locs n.1 n.2 QQ (F0 m pc La stk) := by
  intro T hT XX
  obtain ⟨v0, st₀, t, T', L, h0, X1, hL, e1, e2, ⟨⟨v, w', ad', hv, hq, ha, hag, hlen, hP1, hD1⟩, hz, hk⟩, st⟩ := hr T hT XX
  cases hv
  rw [h0] at hz hk
  obtain ⟨g1, g2, g3, g4, g5, g6, g7⟩ := hG
  have hFr : ∀ q, va_A (x_rl cI cZ ad 0 w) H.size q → A q := by
    intro q h
    rcases h with ⟨i, e, h⟩ | h
    · exact g2.2 i (q, e) h
    · exact C.2.2.2.2.2.2.1 q (Nat.le_trans g3.1 h)
  have hS' : va_S A s.heap T'.heap (locs ++ L) := by
    refine ⟨Nat.le_trans g3.1 (by rw [e1]; exact hz), fun q h1 h2 => ?_, fun q hq => ?_⟩
    · rw [e1, hk q (Nat.lt_of_lt_of_le h1 g3.1) (fun z => h2 (hFr q z))]
      exact g3.2.1 q h1 h2
    · rcases List.mem_append.mp hq with h | h
      · exact g3.2.2 q h
      · exact hFr _ (hL q h)
  have hG' : x_G X k D cI cZ A s ad0 n0 ad' w' T'.heap (locs ++ L) := by
    refine ⟨by rw [e1]; exact hP1, hD1.weaken (fun _ q _ h => hFr q.1 h), hS', fun hk0 => ?_, g5.tr hag g6, Nat.le_trans g6 hlen, ?_⟩
    · rcases hal with hj | ⟨hj, -⟩
      · rw [ha hj]; exact g4 hk0
      · rw [hj] at hk0; cases hk0
    · cases X with
      | none => trivial
      | some q =>
        obtain ⟨x1, x2, x3⟩ := g7
        refine ⟨?_, ?_, ?_⟩
        · rw [hag.2]; exact x1
        · rw [hag.2]; exact x2
        · rw [hag.2]; exact x3
  have hl' : lv_has La (xm_L k) (ls.map (x_trp ad')) ∧ rest.map (x_tr ad') = rest.map (x_tr ad) := by
    rcases hal with hj | ⟨-, hj1, hj2⟩
    · rw [ha hj]; exact ⟨hl, rfl⟩
    · exact ⟨by rw [x_trl_ag hag hj1]; exact hl, x_trL_ag hag hj2⟩
  obtain ⟨t2, a1, b1⟩ := kk v w' hq p l e s m args below meth c D cI cZ A QQ ad0 n0 C hR ad' T'.heap (locs ++ L) La hG' hl'.1 T' rfl X1
  refine ⟨t2, st t2 ?_, b1⟩
  have hs : (v.toList ++ rest).map (x_tr ad') = (v.map (x_tr ad')).toList ++ rest.map (x_tr ad) := by
    rw [List.map_append, hl'.2]
    cases v <;> rfl
  rw [hs] at a1
  exact a1
/-- the callee's start -/
theorem x_pre {s : State} {D : va_G} {cI cZ : ClassId} {A : Nat → Prop} {ad0 : Nat → Nat} {n0 : Nat} {ad : Nat → Nat} {H : Heap} {locs : List Loc} {p : Program} {m : MethodId} {args : Array Value} {meth : Method} {c : Code} (C : x_CX k p s m args meth c D cI cZ A) (hG : x_G X k D cI cZ A s ad0 n0 ad w H locs) (hX : X' = none ∨ X' = X) (as : List Value) :
    FrameBlind (va_Pc (as.map (x_tr ad)) (x_PU X' D cI cZ ad w H.size)) ∧ ∀ U : State, U.heap = H → s.WarmedH U.vm → va_Pc (as.map (x_tr ad)) (x_PU X' D cI cZ ad w H.size) (as.map (x_tr ad)).toArray U := by
  obtain ⟨g1, g2, g3, g4, g5, g6, g7⟩ := hG
  refine ⟨fun a U g mk q => ?_, fun U hU hW => ?_⟩
  · obtain ⟨q0, q1, q2, q3, q4, q5, q6⟩ := q
    refine ⟨q0, q1, q2, va_K.moved (u := U) (U := U.calling g mk a) (Vm.Alike.refl U.vm) q3, q4, fun w hw => ?_, ?_⟩
    · have h1 := q5 w hw
      obtain ⟨o, i, y, h, rfl⟩ : ∃ o i y h, w = Cond.methodLinkNest o i y h := x_nest_form w hw
      exact va_Nw.same rfl rfl h1
    · cases X' with
      | none => trivial
      | some q => exact ⟨va_X.moved (u := U) (U := U.calling g mk a) (Vm.Alike.refl U.vm) q6.1, q6.2⟩
  · refine ⟨rfl, by rw [hU], by rw [hU]; exact g1, va_K.moved hW.alike C.2.2.2.2.2.1, g2.weaken (fun _ _ _ _ => trivial), fun w hw => ?_, ?_⟩
    · have h1 := C.2.2.2.2.2.2.2.1 w hw
      obtain ⟨o, i, y, h, rfl⟩ : ∃ o i y h, w = Cond.methodLinkNest o i y h := x_nest_form w hw
      exact va_Nw.warmM hW h1
    · rcases hX with rfl | rfl
      · trivial
      · cases X' with
        | none => trivial
        | some q =>
          obtain ⟨x1, x2, x3⟩ := g7
          refine ⟨?_, Nat.lt_of_lt_of_le x2 g3.1, fun h => x3 ?_⟩
          · rw [hU]
            exact (va_X.moved hW.alike x1).kept (g3.2.1 _ x2 x3)
          · rcases h with ⟨i, e, h⟩ | h
            · exact g2.2 i _ h
            · exact absurd (Nat.lt_of_lt_of_le x2 g3.1) (Nat.not_lt.mpr h)
theorem x_cb_fit {k a b : Nat} (h : x_cb k a b = true) : ((xm_R a).frames + 1 ≤ (xm_R k).frames ∧ 8 + (xm_L a + 11) + (xm_R a).locals ≤ (xm_R k).locals) ∧ (xm_y a).cls = xm_o a ∧ (xm_y a).cls ≠ "java/lang/invoke/MethodHandle" ∧ (xm_y a).cls ≠ "java/lang/invoke/VarHandle" ∧ (parseMethodDescriptor (xm_y a).desc).map (fun d => d.parameters.length) = some b := by
  simp only [x_cb, x_fit, Bool.and_eq_true, decide_eq_true_eq] at h
  exact ⟨⟨Nat.le_of_ble_eq_true h.1.1, Nat.le_of_ble_eq_true h.1.2⟩, h.2⟩
theorem x_catl (ad : Nat → Nat) (l : List Value) : ((l.map (x_tr ad)).map fun v => v.category).sum = (l.map fun v => v.category).sum := by
  rw [List.map_map]
  congr 1
  exact List.map_congr_left fun v _ => x_cat ad v
/-- a call of an instance method -/
theorem V.callV {idx j o : Nat} {as rest : List Value} {fs : List Value} {Qj : Option Value → xW → Prop} (hd : xm_i k pc = some (.invokevirtual idx, nx, j, b)) (ht : Tot X' j (.ref o :: as) w Qj) (hst : as.reverse ++ .ref o :: rest = st) (hw : w[o]? = some (.inr (xm_c j, fs))) (hlen : as.length = b) (hW : (rest.map fun v => v.category).sum ≤ 8) (hX : X' = none ∨ X' = X) (hal : x_al k j w ls rest) (hf : n.1 + (xm_R j).cells ≤ (xm_R k).cells ∧ n.2 + (xm_R j).slots ≤ (xm_R k).slots)
    (kk : ∀ v w', Qj v w' → V X k Q (n.1 + (xm_R j).cells, n.2 + (xm_R j).slots) nx ls (v.toList ++ rest) w') : V X k Q n pc ls st w := by
  intro p l e s m args below meth c D cI cZ A QQ ad0 n0 C hR ad H locs La hG hl
  obtain ⟨hdc, hnx, hex⟩ := C.2.2.2.2.2.2.2.2.2 pc _ hd
  dsimp only at hdc hnx hex
  have hnx : nx = pc + 3 := hnx
  subst hnx
  obtain ⟨hlk, hcb⟩ := hex
  obtain ⟨hfit, hcls, hnm1, hnm2, hpar⟩ := x_cb_fit hcb
  have hml := x_lv_ok _ hlk
  obtain ⟨hini, hcode, hinst, hsel⟩ := x_lv_me _ hlk
  dsimp only at hml hini hcode hinst hsel
  have hts := C.2.2.2.2.1
  have hcl6 : xm_c j < 6 ∧ xcl[xm_c j]? = some (xc_n (xm_c j), xc_T (xm_c j), xc_N (xm_c j)) := by
    have h1 := hG.1 o _ (x_rl_at hw)
    obtain ⟨r, hr, -⟩ := h1
    have h6 := x_cl6 hr
    exact ⟨h6, x_xcl h6⟩
  have hpre := x_pre (X' := X') C hG hX (.ref o :: as)
  subst hst
  refine x_after (aa := (Value.ref (ad o) :: as.map (x_tr ad)).toArray) C hR hG hl hal ?_ kk
  refine va_runV (C := xm_o j) (b := ad o) (As := as.map (x_tr ad)) (nL := xm_L k) (Ts := xG) (own := xm_o k) ⟨C.1, C.2.1, C.2.2.1, C.2.2.2.1, hts⟩ (ht l D cI cZ ad H.size) (cwV b hts (x_good_app hcode (fun w hw => ?_)) rfl rfl rfl ⟨hcls, hnm1, hnm2, hpar⟩ hfit) ⟨hpre.1, va_recv C.2.2.2.2.2.1 hG.1 hcl6.2 (x_rl_at hw), hpre.2⟩ rfl (by rw [List.length_map]; exact hlen) hl.1 (by simp [x_tr]) (lv_room (by rw [x_catl]; exact hW)) hdc hf
  simp only [List.mem_cons, List.not_mem_nil, or_false] at hw
  rcases hw with rfl | rfl | rfl | rfl
  · exact hml
  · exact hinst
  · exact hsel
  · exact hini
/-- a call of a static method -/
theorem V.callS {idx j : Nat} {as rest : List Value} {Qj : Option Value → xW → Prop} (hd : xm_i k pc = some (.invokestatic idx, nx, j, b)) (hj : Nat.ble j 899 = true) (ht : Tot X' j as w Qj) (hst : as.reverse ++ rest = st) (hlen : as.length = b) (hW : (rest.map fun v => v.category).sum ≤ 8) (hX : X' = none ∨ X' = X) (hal : x_al k j w ls rest) (hf : n.1 + (xm_R j).cells ≤ (xm_R k).cells ∧ n.2 + (xm_R j).slots ≤ (xm_R k).slots)
    (kk : ∀ v w', Qj v w' → V X k Q (n.1 + (xm_R j).cells, n.2 + (xm_R j).slots) nx ls (v.toList ++ rest) w') : V X k Q n pc ls st w := by
  intro p l e s m args below meth c D cI cZ A QQ ad0 n0 C hR ad H locs La hG hl
  obtain ⟨hdc, hnx, hex⟩ := C.2.2.2.2.2.2.2.2.2 pc _ hd
  dsimp only at hdc hnx hex
  have hnx : nx = pc + 3 := hnx
  subst hnx
  have hj9 : ¬ 900 ≤ j := by have := Nat.le_of_ble_eq_true hj; omega
  have hts := C.2.2.2.2.1
  have hpre := x_pre (X' := X') C hG hX as
  subst hst
  rcases hex with h9 | ⟨hlk, hcb⟩
  · exact absurd h9 hj9
  obtain ⟨hfit, hcls, hnm1, hnm2, hpar⟩ := x_cb_fit hcb
  refine x_after (aa := (as.map (x_tr ad)).toArray) C hR hG hl hal ?_ kk
  rcases hlk with ⟨hlk, hsame⟩ | hlk
  · have hml := x_ls_ok _ hlk
    obtain ⟨hini, hcode, hstat⟩ := x_ls_me _ hlk
    dsimp only at hml hini hcode hstat
    refine va_runS (As := as.map (x_tr ad)) (nL := xm_L k) (Ts := xG) (own := xm_o k) ⟨C.1, C.2.1, C.2.2.1, C.2.2.2.1, hts⟩ (ht l D cI cZ ad H.size) (cwS b hts (x_good_app hcode (fun w hw => ?_)) rfl rfl rfl ⟨hcls.trans hsame, hnm1, hnm2, hpar⟩ hfit) hpre rfl (by rw [List.length_map]; exact hlen) hl.1 (by simp) (lv_room (by rw [x_catl]; exact hW)) hdc hf
    simp only [List.mem_cons, List.not_mem_nil, or_false] at hw
    rcases hw with rfl | rfl | rfl
    · exact hml
    · exact hstat
    · rw [← hsame]; exact hini
  · have hml := C.2.2.2.2.2.2.2.1 _ (x_ln_ok _ hlk)
    obtain ⟨hini, hcode, hstat⟩ := x_ln_me _ hlk
    dsimp only at hml hini hcode hstat
    exact va_runSN (As := as.map (x_tr ad)) (nL := xm_L k) (Ts := xG) (own := xm_o k) (n := b) ⟨C.1, C.2.1, C.2.2.1, C.2.2.2.1, hts⟩ (ht l D cI cZ ad H.size) ⟨va_cnB b hts (x_good hcode) rfl rfl rfl hml (by rw [hcls]; exact hts _ hini) ⟨hnm1, hnm2, hpar⟩ hfit, hts _ hstat, trivial⟩ hpre rfl (by rw [List.length_map]; exact hlen) hl.1 (by simp) (lv_room (by rw [x_catl]; exact hW)) hdc hf
/-- a call of a constructor -/
theorem V.callI {idx j o : Nat} {as rest : List Value} {Qj : Option Value → xW → Prop} (hd : xm_i k pc = some (.invokespecial idx, nx, j, b)) (hj : Nat.ble j 899 = true) (ht : Tot X' j (.ref o :: as) w Qj) (hst : as.reverse ++ .ref o :: rest = st) (hlen : as.length = b) (hW : (rest.map fun v => v.category).sum ≤ 8) (hX : X' = none ∨ X' = X) (hal : x_al k j w ls rest) (hf : n.1 + (xm_R j).cells ≤ (xm_R k).cells ∧ n.2 + (xm_R j).slots ≤ (xm_R k).slots)
    (kk : ∀ v w', Qj v w' → V X k Q (n.1 + (xm_R j).cells, n.2 + (xm_R j).slots) nx ls (v.toList ++ rest) w') : V X k Q n pc ls st w := by
  intro p l e s m args below meth c D cI cZ A QQ ad0 n0 C hR ad H locs La hG hl
  obtain ⟨hdc, hnx, hex⟩ := C.2.2.2.2.2.2.2.2.2 pc _ hd
  dsimp only at hdc hnx hex
  have hnx : nx = pc + 3 := hnx
  subst hnx
  have hj9 : ¬ 900 ≤ j := by have := Nat.le_of_ble_eq_true hj; omega
  have hts := C.2.2.2.2.1
  have hpre := x_pre (X' := X') C hG hX (.ref o :: as)
  subst hst
  rcases hex with h9 | ⟨hlk, hcb, hnm, hret⟩
  · exact absurd h9 hj9
  obtain ⟨hfit, hcls, hnm1, hnm2, hpar⟩ := x_cb_fit hcb
  refine x_after (aa := (Value.ref (ad o) :: as.map (x_tr ad)).toArray) C hR hG hl hal ?_ kk
  have hml := x_li_ok _ hlk
  obtain ⟨hini, hcode, hinst⟩ := x_li_me _ hlk
  dsimp only at hml hini hcode hinst
  exact va_runI (b := ad o) (As := as.map (x_tr ad)) (nL := xm_L k) (Ts := xG) (own := xm_o k) ⟨C.1, C.2.1, C.2.2.1, C.2.2.2.1, hts⟩ (ht l D cI cZ ad H.size) (cwI b hts (x_good hcode) (by rw [← hret]; rfl) rfl rfl (by rw [hcls]; exact hts _ hini) (hts _ hml) (hts _ hinst) hnm ⟨hnm1, hnm2, hpar⟩ hfit) hpre rfl (by rw [List.length_map]; exact hlen) hl.1 (by simp [x_tr]) (lv_room (by rw [x_catl]; exact hW)) hdc hf
end VC
end
section
theorem x_plain : ∀ c, c ≤ 6 → plainName (xc_n c) = true := by
  intro c h
  match c, h with
  | 0, _ => exact (by decide +kernel)
  | 1, _ => exact (by decide +kernel)
  | 2, _ => exact (by decide +kernel)
  | 3, _ => exact (by decide +kernel)
  | 4, _ => exact (by decide +kernel)
  | 5, _ => exact (by decide +kernel)
  | 6, _ => exact (by decide +kernel)
  | n + 7, h => omega
theorem Tot.mk {X : Option (Nat × (Nat → Int32))} {k : Nat} {as : List Value} {w : xW} {Q : Option Value → xW → Prop} (ok : ∀ pc q, xm_i k pc = some q → x_ok k pc q) (ho : xm_o k = (xm_y k).cls) (hc : Nat.ble (xm_c k) 6 = true) (hn : xm_n k = false) (hL : Nat.ble (lg_sl as).length (xm_L k) = true) (h : V X k Q (0, 0) 0 (lv_args 0 as) [] w) : Tot X k as w Q :=
  Tot.of ok (by rw [← ho]; exact x_plain _ (Nat.le_of_ble_eq_true hc)) ho (fun h => by rw [hn] at h; cases h) (Nat.le_of_ble_eq_true hL) h
theorem Tot.mkI {X : Option (Nat × (Nat → Int32))} {k : Nat} {as : List Value} {w : xW} {Q : Option Value → xW → Prop} (ok : ∀ pc q, xm_i k pc = some q → x_ok k pc q) (ho : xm_o k = (xm_y k).cls) (hc : Nat.ble (xm_c k) 6 = true) (hn : (xm_y k).name = "<init>") (hL : Nat.ble (lg_sl as).length (xm_L k) = true) (h : V X k Q (0, 0) 0 (lv_args 0 as) [] w) : Tot X k as w Q :=
  Tot.of ok (by rw [← ho]; exact x_plain _ (Nat.le_of_ble_eq_true hc)) ho (fun _ => hn) (Nat.le_of_ble_eq_true hL) h
theorem eX0_init {X : Option (Nat × (Nat → Int32))} {o : Nat} {z0 : Int32} {z1 : Nat} {z2 : Nat} {w : xW} {Q : Option Value → xW → Prop} (h : V X 0 Q (0, 0) 0 [(0, .ref o), (1, .int z0), (2, .ref z1), (3, .ref z2)] [] w) : Tot X 0 [.ref o, .int z0, .ref z1, .ref z2] w Q := Tot.mkI xo_0 rfl rfl rfl rfl h
theorem eX0_has {X : Option (Nat × (Nat → Int32))} {o : Nat} {z0 : Int32} {w : xW} {Q : Option Value → xW → Prop} (h : V X 1 Q (0, 0) 0 [(0, .ref o), (1, .int z0)] [] w) : Tot X 1 [.ref o, .int z0] w Q := Tot.mk xo_1 rfl rfl rfl rfl h
theorem eX0_classOf {X : Option (Nat × (Nat → Int32))} {o : Nat} {z0 : Int32} {w : xW} {Q : Option Value → xW → Prop} (h : V X 2 Q (0, 0) 0 [(0, .ref o), (1, .int z0)] [] w) : Tot X 2 [.ref o, .int z0] w Q := Tot.mk xo_2 rfl rfl rfl rfl h
theorem eX0_isUnswept {X : Option (Nat × (Nat → Int32))} {o : Nat} {z0 : Int32} {w : xW} {Q : Option Value → xW → Prop} (h : V X 3 Q (0, 0) 0 [(0, .ref o), (1, .int z0)] [] w) : Tot X 3 [.ref o, .int z0] w Q := Tot.mk xo_3 rfl rfl rfl rfl h
theorem eX0_sweepsDone {X : Option (Nat × (Nat → Int32))} {o : Nat} {w : xW} {Q : Option Value → xW → Prop} (h : V X 4 Q (0, 0) 0 [(0, .ref o)] [] w) : Tot X 4 [.ref o] w Q := Tot.mk xo_4 rfl rfl rfl rfl h
theorem eX0_cellsIn {X : Option (Nat × (Nat → Int32))} {o : Nat} {z0 : Int32} {w : xW} {Q : Option Value → xW → Prop} (h : V X 5 Q (0, 0) 0 [(0, .ref o), (1, .int z0)] [] w) : Tot X 5 [.ref o, .int z0] w Q := Tot.mk xo_5 rfl rfl rfl rfl h
theorem eX0_cellOf {X : Option (Nat × (Nat → Int32))} {o : Nat} {z0 : Int32} {z1 : Int32} {w : xW} {Q : Option Value → xW → Prop} (h : V X 6 Q (0, 0) 0 [(0, .ref o), (1, .int z0), (2, .int z1)] [] w) : Tot X 6 [.ref o, .int z0, .int z1] w Q := Tot.mk xo_6 rfl rfl rfl rfl h
theorem eX0_cellAround {X : Option (Nat × (Nat → Int32))} {o : Nat} {z0 : Int32} {w : xW} {Q : Option Value → xW → Prop} (h : V X 7 Q (0, 0) 0 [(0, .ref o), (1, .int z0)] [] w) : Tot X 7 [.ref o, .int z0] w Q := Tot.mk xo_7 rfl rfl rfl rfl h
theorem eX0_objectsIn {X : Option (Nat × (Nat → Int32))} {o : Nat} {z0 : Int32} {w : xW} {Q : Option Value → xW → Prop} (h : V X 8 Q (0, 0) 0 [(0, .ref o), (1, .int z0)] [] w) : Tot X 8 [.ref o, .int z0] w Q := Tot.mk xo_8 rfl rfl rfl rfl h
theorem eX0_emptyCellsIn {X : Option (Nat × (Nat → Int32))} {o : Nat} {z0 : Int32} {w : xW} {Q : Option Value → xW → Prop} (h : V X 9 Q (0, 0) 0 [(0, .ref o), (1, .int z0)] [] w) : Tot X 9 [.ref o, .int z0] w Q := Tot.mk xo_9 rfl rfl rfl rfl h
theorem eX0_objects {X : Option (Nat × (Nat → Int32))} {o : Nat} {w : xW} {Q : Option Value → xW → Prop} (h : V X 10 Q (0, 0) 0 [(0, .ref o)] [] w) : Tot X 10 [.ref o] w Q := Tot.mk xo_10 rfl rfl rfl rfl h
theorem eX0_usedWords {X : Option (Nat × (Nat → Int32))} {o : Nat} {w : xW} {Q : Option Value → xW → Prop} (h : V X 11 Q (0, 0) 0 [(0, .ref o)] [] w) : Tot X 11 [.ref o] w Q := Tot.mk xo_11 rfl rfl rfl rfl h
theorem eX0_freeBlocks {X : Option (Nat × (Nat → Int32))} {o : Nat} {w : xW} {Q : Option Value → xW → Prop} (h : V X 12 Q (0, 0) 0 [(0, .ref o)] [] w) : Tot X 12 [.ref o] w Q := Tot.mk xo_12 rfl rfl rfl rfl h
theorem eX0_unsweptBlocks {X : Option (Nat × (Nat → Int32))} {o : Nat} {w : xW} {Q : Option Value → xW → Prop} (h : V X 13 Q (0, 0) 0 [(0, .ref o)] [] w) : Tot X 13 [.ref o] w Q := Tot.mk xo_13 rfl rfl rfl rfl h
theorem eX0_firstUnswept {X : Option (Nat × (Nat → Int32))} {o : Nat} {w : xW} {Q : Option Value → xW → Prop} (h : V X 14 Q (0, 0) 0 [(0, .ref o)] [] w) : Tot X 14 [.ref o] w Q := Tot.mk xo_14 rfl rfl rfl rfl h
theorem eX0_unsweepAll {X : Option (Nat × (Nat → Int32))} {o : Nat} {w : xW} {Q : Option Value → xW → Prop} (h : V X 15 Q (0, 0) 0 [(0, .ref o)] [] w) : Tot X 15 [.ref o] w Q := Tot.mk xo_15 rfl rfl rfl rfl h
theorem eX0_clean {X : Option (Nat × (Nat → Int32))} {o : Nat} {z0 : Int32} {w : xW} {Q : Option Value → xW → Prop} (h : V X 16 Q (0, 0) 0 [(0, .ref o), (1, .int z0)] [] w) : Tot X 16 [.ref o, .int z0] w Q := Tot.mk xo_16 rfl rfl rfl rfl h
theorem eX0_findCell {X : Option (Nat × (Nat → Int32))} {o : Nat} {z0 : Int32} {w : xW} {Q : Option Value → xW → Prop} (h : V X 17 Q (0, 0) 0 [(0, .ref o), (1, .int z0)] [] w) : Tot X 17 [.ref o, .int z0] w Q := Tot.mk xo_17 rfl rfl rfl rfl h
theorem eX0_emptyCell {X : Option (Nat × (Nat → Int32))} {o : Nat} {z0 : Int32} {w : xW} {Q : Option Value → xW → Prop} (h : V X 18 Q (0, 0) 0 [(0, .ref o), (1, .int z0)] [] w) : Tot X 18 [.ref o, .int z0] w Q := Tot.mk xo_18 rfl rfl rfl rfl h
theorem eX0_emptyCellOf {X : Option (Nat × (Nat → Int32))} {o : Nat} {z0 : Int32} {w : xW} {Q : Option Value → xW → Prop} (h : V X 19 Q (0, 0) 0 [(0, .ref o), (1, .int z0)] [] w) : Tot X 19 [.ref o, .int z0] w Q := Tot.mk xo_19 rfl rfl rfl rfl h
theorem eX0_cleanOwn {X : Option (Nat × (Nat → Int32))} {o : Nat} {z0 : Int32} {w : xW} {Q : Option Value → xW → Prop} (h : V X 20 Q (0, 0) 0 [(0, .ref o), (1, .int z0)] [] w) : Tot X 20 [.ref o, .int z0] w Q := Tot.mk xo_20 rfl rfl rfl rfl h
theorem eX0_cleanOthers {X : Option (Nat × (Nat → Int32))} {o : Nat} {z0 : Int32} {w : xW} {Q : Option Value → xW → Prop} (h : V X 21 Q (0, 0) 0 [(0, .ref o), (1, .int z0)] [] w) : Tot X 21 [.ref o, .int z0] w Q := Tot.mk xo_21 rfl rfl rfl rfl h
theorem eX0_firstFree {X : Option (Nat × (Nat → Int32))} {o : Nat} {w : xW} {Q : Option Value → xW → Prop} (h : V X 22 Q (0, 0) 0 [(0, .ref o)] [] w) : Tot X 22 [.ref o] w Q := Tot.mk xo_22 rfl rfl rfl rfl h
theorem eX0_open {X : Option (Nat × (Nat → Int32))} {o : Nat} {z0 : Int32} {z1 : Int32} {w : xW} {Q : Option Value → xW → Prop} (h : V X 23 Q (0, 0) 0 [(0, .ref o), (1, .int z0), (2, .int z1)] [] w) : Tot X 23 [.ref o, .int z0, .int z1] w Q := Tot.mk xo_23 rfl rfl rfl rfl h
theorem eX1_init {X : Option (Nat × (Nat → Int32))} {o : Nat} {z0 : Int32} {w : xW} {Q : Option Value → xW → Prop} (h : V X 24 Q (0, 0) 0 [(0, .ref o), (1, .int z0)] [] w) : Tot X 24 [.ref o, .int z0] w Q := Tot.mkI xo_24 rfl rfl rfl rfl h
theorem eX1_size {X : Option (Nat × (Nat → Int32))} {o : Nat} {w : xW} {Q : Option Value → xW → Prop} (h : V X 25 Q (0, 0) 0 [(0, .ref o)] [] w) : Tot X 25 [.ref o] w Q := Tot.mk xo_25 rfl rfl rfl rfl h
theorem eX1_get {X : Option (Nat × (Nat → Int32))} {o : Nat} {z0 : Int32} {w : xW} {Q : Option Value → xW → Prop} (h : V X 26 Q (0, 0) 0 [(0, .ref o), (1, .int z0)] [] w) : Tot X 26 [.ref o, .int z0] w Q := Tot.mk xo_26 rfl rfl rfl rfl h
theorem eX1_addByName {X : Option (Nat × (Nat → Int32))} {o : Nat} {z0 : Int32} {z1 : Int32} {z2 : Nat} {w : xW} {Q : Option Value → xW → Prop} (h : V X 27 Q (0, 0) 0 [(0, .ref o), (1, .int z0), (2, .int z1), (3, .ref z2)] [] w) : Tot X 27 [.ref o, .int z0, .int z1, .ref z2] w Q := Tot.mk xo_27 rfl rfl rfl rfl h
theorem eX1_takeFirst {X : Option (Nat × (Nat → Int32))} {o : Nat} {w : xW} {Q : Option Value → xW → Prop} (h : V X 28 Q (0, 0) 0 [(0, .ref o)] [] w) : Tot X 28 [.ref o] w Q := Tot.mk xo_28 rfl rfl rfl rfl h
theorem eX2_init {X : Option (Nat × (Nat → Int32))} {o : Nat} {z0 : Int32} {w : xW} {Q : Option Value → xW → Prop} (h : V X 29 Q (0, 0) 0 [(0, .ref o), (1, .int z0)] [] w) : Tot X 29 [.ref o, .int z0] w Q := Tot.mkI xo_29 rfl rfl rfl rfl h
theorem eX2_words {X : Option (Nat × (Nat → Int32))} {o : Nat} {w : xW} {Q : Option Value → xW → Prop} (h : V X 30 Q (0, 0) 0 [(0, .ref o)] [] w) : Tot X 30 [.ref o] w Q := Tot.mk xo_30 rfl rfl rfl rfl h
theorem eX2_isWord {X : Option (Nat × (Nat → Int32))} {o : Nat} {z0 : Int32} {w : xW} {Q : Option Value → xW → Prop} (h : V X 31 Q (0, 0) 0 [(0, .ref o), (1, .int z0)] [] w) : Tot X 31 [.ref o, .int z0] w Q := Tot.mk xo_31 rfl rfl rfl rfl h
theorem eX2_nameAt {X : Option (Nat × (Nat → Int32))} {o : Nat} {z0 : Int32} {w : xW} {Q : Option Value → xW → Prop} (h : V X 32 Q (0, 0) 0 [(0, .ref o), (1, .int z0)] [] w) : Tot X 32 [.ref o, .int z0] w Q := Tot.mk xo_32 rfl rfl rfl rfl h
theorem eX2_fieldsOf {X : Option (Nat × (Nat → Int32))} {o : Nat} {z0 : Int32} {w : xW} {Q : Option Value → xW → Prop} (h : V X 33 Q (0, 0) 0 [(0, .ref o), (1, .int z0)] [] w) : Tot X 33 [.ref o, .int z0] w Q := Tot.mk xo_33 rfl rfl rfl rfl h
theorem eX2_isWatched {X : Option (Nat × (Nat → Int32))} {o : Nat} {z0 : Int32} {w : xW} {Q : Option Value → xW → Prop} (h : V X 34 Q (0, 0) 0 [(0, .ref o), (1, .int z0)] [] w) : Tot X 34 [.ref o, .int z0] w Q := Tot.mk xo_34 rfl rfl rfl rfl h
theorem eX2_setWatched {X : Option (Nat × (Nat → Int32))} {o : Nat} {z0 : Int32} {z1 : Int32} {w : xW} {Q : Option Value → xW → Prop} (h : V X 35 Q (0, 0) 0 [(0, .ref o), (1, .int z0), (2, .int z1)] [] w) : Tot X 35 [.ref o, .int z0, .int z1] w Q := Tot.mk xo_35 rfl rfl rfl rfl h
theorem eX2_kindOf {X : Option (Nat × (Nat → Int32))} {o : Nat} {z0 : Int32} {z1 : Int32} {w : xW} {Q : Option Value → xW → Prop} (h : V X 36 Q (0, 0) 0 [(0, .ref o), (1, .int z0), (2, .int z1)] [] w) : Tot X 36 [.ref o, .int z0, .int z1] w Q := Tot.mk xo_36 rfl rfl rfl rfl h
theorem eX2_valueOf {X : Option (Nat × (Nat → Int32))} {o : Nat} {z0 : Int32} {z1 : Int32} {w : xW} {Q : Option Value → xW → Prop} (h : V X 37 Q (0, 0) 0 [(0, .ref o), (1, .int z0), (2, .int z1)] [] w) : Tot X 37 [.ref o, .int z0, .int z1] w Q := Tot.mk xo_37 rfl rfl rfl rfl h
theorem eX2_write {X : Option (Nat × (Nat → Int32))} {o : Nat} {z0 : Int32} {z1 : Int32} {z2 : Int32} {z3 : Int32} {w : xW} {Q : Option Value → xW → Prop} (h : V X 38 Q (0, 0) 0 [(0, .ref o), (1, .int z0), (2, .int z1), (3, .int z2), (4, .int z3)] [] w) : Tot X 38 [.ref o, .int z0, .int z1, .int z2, .int z3] w Q := Tot.mk xo_38 rfl rfl rfl rfl h
theorem eX2_place {X : Option (Nat × (Nat → Int32))} {o : Nat} {z0 : Int32} {z1 : Int32} {z2 : Int32} {w : xW} {Q : Option Value → xW → Prop} (h : V X 39 Q (0, 0) 0 [(0, .ref o), (1, .int z0), (2, .int z1), (3, .int z2)] [] w) : Tot X 39 [.ref o, .int z0, .int z1, .int z2] w Q := Tot.mk xo_39 rfl rfl rfl rfl h
theorem eX2_remove {X : Option (Nat × (Nat → Int32))} {o : Nat} {z0 : Int32} {w : xW} {Q : Option Value → xW → Prop} (h : V X 40 Q (0, 0) 0 [(0, .ref o), (1, .int z0)] [] w) : Tot X 40 [.ref o, .int z0] w Q := Tot.mk xo_40 rfl rfl rfl rfl h
theorem eX2_watchedObjects {X : Option (Nat × (Nat → Int32))} {o : Nat} {w : xW} {Q : Option Value → xW → Prop} (h : V X 41 Q (0, 0) 0 [(0, .ref o)] [] w) : Tot X 41 [.ref o] w Q := Tot.mk xo_41 rfl rfl rfl rfl h
theorem eX3_init {X : Option (Nat × (Nat → Int32))} {o : Nat} {z0 : Int32} {w : xW} {Q : Option Value → xW → Prop} (h : V X 42 Q (0, 0) 0 [(0, .ref o), (1, .int z0)] [] w) : Tot X 42 [.ref o, .int z0] w Q := Tot.mkI xo_42 rfl rfl rfl rfl h
theorem eX3_size {X : Option (Nat × (Nat → Int32))} {o : Nat} {w : xW} {Q : Option Value → xW → Prop} (h : V X 43 Q (0, 0) 0 [(0, .ref o)] [] w) : Tot X 43 [.ref o] w Q := Tot.mk xo_43 rfl rfl rfl rfl h
theorem eX3_get {X : Option (Nat × (Nat → Int32))} {o : Nat} {z0 : Int32} {w : xW} {Q : Option Value → xW → Prop} (h : V X 44 Q (0, 0) 0 [(0, .ref o), (1, .int z0)] [] w) : Tot X 44 [.ref o, .int z0] w Q := Tot.mk xo_44 rfl rfl rfl rfl h
theorem eX3_rankOf {X : Option (Nat × (Nat → Int32))} {o : Nat} {z0 : Int32} {w : xW} {Q : Option Value → xW → Prop} (h : V X 45 Q (0, 0) 0 [(0, .ref o), (1, .int z0)] [] w) : Tot X 45 [.ref o, .int z0] w Q := Tot.mk xo_45 rfl rfl rfl rfl h
theorem eX3_has {X : Option (Nat × (Nat → Int32))} {o : Nat} {z0 : Int32} {w : xW} {Q : Option Value → xW → Prop} (h : V X 46 Q (0, 0) 0 [(0, .ref o), (1, .int z0)] [] w) : Tot X 46 [.ref o, .int z0] w Q := Tot.mk xo_46 rfl rfl rfl rfl h
theorem eX3_clear {X : Option (Nat × (Nat → Int32))} {o : Nat} {w : xW} {Q : Option Value → xW → Prop} (h : V X 47 Q (0, 0) 0 [(0, .ref o)] [] w) : Tot X 47 [.ref o] w Q := Tot.mk xo_47 rfl rfl rfl rfl h
theorem eX3_come {X : Option (Nat × (Nat → Int32))} {o : Nat} {z0 : Int32} {w : xW} {Q : Option Value → xW → Prop} (h : V X 48 Q (0, 0) 0 [(0, .ref o), (1, .int z0)] [] w) : Tot X 48 [.ref o, .int z0] w Q := Tot.mk xo_48 rfl rfl rfl rfl h
theorem eX3_spread {X : Option (Nat × (Nat → Int32))} {o : Nat} {z0 : Nat} {w : xW} {Q : Option Value → xW → Prop} (h : V X 49 Q (0, 0) 0 [(0, .ref o), (1, .ref z0)] [] w) : Tot X 49 [.ref o, .ref z0] w Q := Tot.mk xo_49 rfl rfl rfl rfl h
theorem eX4_init {X : Option (Nat × (Nat → Int32))} {o : Nat} {z0 : Int32} {w : xW} {Q : Option Value → xW → Prop} (h : V X 50 Q (0, 0) 0 [(0, .ref o), (1, .int z0)] [] w) : Tot X 50 [.ref o, .int z0] w Q := Tot.mkI xo_50 rfl rfl rfl rfl h
theorem eX4_make {X : Option (Nat × (Nat → Int32))} {o : Nat} {z0 : Int32} {z1 : Int32} {w : xW} {Q : Option Value → xW → Prop} (h : V X 51 Q (0, 0) 0 [(0, .ref o), (1, .int z0), (2, .int z1)] [] w) : Tot X 51 [.ref o, .int z0, .int z1] w Q := Tot.mk xo_51 rfl rfl rfl rfl h
theorem eX4_set {X : Option (Nat × (Nat → Int32))} {o : Nat} {z0 : Int32} {z1 : Int32} {z2 : Int32} {w : xW} {Q : Option Value → xW → Prop} (h : V X 52 Q (0, 0) 0 [(0, .ref o), (1, .int z0), (2, .int z1), (3, .int z2)] [] w) : Tot X 52 [.ref o, .int z0, .int z1, .int z2] w Q := Tot.mk xo_52 rfl rfl rfl rfl h
theorem eX4_link {X : Option (Nat × (Nat → Int32))} {o : Nat} {z0 : Int32} {z1 : Int32} {z2 : Int32} {z3 : Int32} {w : xW} {Q : Option Value → xW → Prop} (h : V X 53 Q (0, 0) 0 [(0, .ref o), (1, .int z0), (2, .int z1), (3, .int z2), (4, .int z3)] [] w) : Tot X 53 [.ref o, .int z0, .int z1, .int z2, .int z3] w Q := Tot.mk xo_53 rfl rfl rfl rfl h
theorem eX4_refers {X : Option (Nat × (Nat → Int32))} {o : Nat} {z0 : Int32} {z1 : Int32} {w : xW} {Q : Option Value → xW → Prop} (h : V X 54 Q (0, 0) 0 [(0, .ref o), (1, .int z0), (2, .int z1)] [] w) : Tot X 54 [.ref o, .int z0, .int z1] w Q := Tot.mk xo_54 rfl rfl rfl rfl h
theorem eX4_number {X : Option (Nat × (Nat → Int32))} {o : Nat} {z0 : Int32} {z1 : Int32} {w : xW} {Q : Option Value → xW → Prop} (h : V X 55 Q (0, 0) 0 [(0, .ref o), (1, .int z0), (2, .int z1)] [] w) : Tot X 55 [.ref o, .int z0, .int z1] w Q := Tot.mk xo_55 rfl rfl rfl rfl h
theorem eX4_load {X : Option (Nat × (Nat → Int32))} {o : Nat} {z0 : Int32} {z1 : Int32} {z2 : Int32} {w : xW} {Q : Option Value → xW → Prop} (h : V X 56 Q (0, 0) 0 [(0, .ref o), (1, .int z0), (2, .int z1), (3, .int z2)] [] w) : Tot X 56 [.ref o, .int z0, .int z1, .int z2] w Q := Tot.mk xo_56 rfl rfl rfl rfl h
theorem eX4_copy {X : Option (Nat × (Nat → Int32))} {o : Nat} {z0 : Int32} {z1 : Int32} {w : xW} {Q : Option Value → xW → Prop} (h : V X 57 Q (0, 0) 0 [(0, .ref o), (1, .int z0), (2, .int z1)] [] w) : Tot X 57 [.ref o, .int z0, .int z1] w Q := Tot.mk xo_57 rfl rfl rfl rfl h
theorem eX4_drop {X : Option (Nat × (Nat → Int32))} {o : Nat} {z0 : Int32} {w : xW} {Q : Option Value → xW → Prop} (h : V X 58 Q (0, 0) 0 [(0, .ref o), (1, .int z0)] [] w) : Tot X 58 [.ref o, .int z0] w Q := Tot.mk xo_58 rfl rfl rfl rfl h
theorem eX4_watch {X : Option (Nat × (Nat → Int32))} {o : Nat} {z0 : Int32} {z1 : Int32} {w : xW} {Q : Option Value → xW → Prop} (h : V X 59 Q (0, 0) 0 [(0, .ref o), (1, .int z0), (2, .int z1)] [] w) : Tot X 59 [.ref o, .int z0, .int z1] w Q := Tot.mk xo_59 rfl rfl rfl rfl h
theorem eX4_next {X : Option (Nat × (Nat → Int32))} {o : Nat} {z0 : Int32} {w : xW} {Q : Option Value → xW → Prop} (h : V X 60 Q (0, 0) 0 [(0, .ref o), (1, .int z0)] [] w) : Tot X 60 [.ref o, .int z0] w Q := Tot.mk xo_60 rfl rfl rfl rfl h
theorem eX4_mark {X : Option (Nat × (Nat → Int32))} {o : Nat} {w : xW} {Q : Option Value → xW → Prop} (h : V X 61 Q (0, 0) 0 [(0, .ref o)] [] w) : Tot X 61 [.ref o] w Q := Tot.mk xo_61 rfl rfl rfl rfl h
theorem eX4_sweep {X : Option (Nat × (Nat → Int32))} {o : Nat} {w : xW} {Q : Option Value → xW → Prop} (h : V X 62 Q (0, 0) 0 [(0, .ref o)] [] w) : Tot X 62 [.ref o] w Q := Tot.mk xo_62 rfl rfl rfl rfl h
theorem eX4_object {X : Option (Nat × (Nat → Int32))} {o : Nat} {z0 : Int32} {z1 : Int32} {w : xW} {Q : Option Value → xW → Prop} (h : V X 63 Q (0, 0) 0 [(0, .ref o), (1, .int z0), (2, .int z1)] [] w) : Tot X 63 [.ref o, .int z0, .int z1] w Q := Tot.mk xo_63 rfl rfl rfl rfl h
theorem eX4_at {X : Option (Nat × (Nat → Int32))} {o : Nat} {z0 : Int32} {w : xW} {Q : Option Value → xW → Prop} (h : V X 64 Q (0, 0) 0 [(0, .ref o), (1, .int z0)] [] w) : Tot X 64 [.ref o, .int z0] w Q := Tot.mk xo_64 rfl rfl rfl rfl h
theorem eX4_block {X : Option (Nat × (Nat → Int32))} {o : Nat} {z0 : Int32} {z1 : Int32} {w : xW} {Q : Option Value → xW → Prop} (h : V X 65 Q (0, 0) 0 [(0, .ref o), (1, .int z0), (2, .int z1)] [] w) : Tot X 65 [.ref o, .int z0, .int z1] w Q := Tot.mk xo_65 rfl rfl rfl rfl h
theorem eX4_count {X : Option (Nat × (Nat → Int32))} {o : Nat} {z0 : Int32} {w : xW} {Q : Option Value → xW → Prop} (h : V X 66 Q (0, 0) 0 [(0, .ref o), (1, .int z0)] [] w) : Tot X 66 [.ref o, .int z0] w Q := Tot.mk xo_66 rfl rfl rfl rfl h
theorem eX4_same {X : Option (Nat × (Nat → Int32))} {o : Nat} {z0 : Int32} {z1 : Int32} {w : xW} {Q : Option Value → xW → Prop} (h : V X 67 Q (0, 0) 0 [(0, .ref o), (1, .int z0), (2, .int z1)] [] w) : Tot X 67 [.ref o, .int z0, .int z1] w Q := Tot.mk xo_67 rfl rfl rfl rfl h
theorem eX4_sum {X : Option (Nat × (Nat → Int32))} {o : Nat} {z0 : Int32} {w : xW} {Q : Option Value → xW → Prop} (h : V X 68 Q (0, 0) 0 [(0, .ref o), (1, .int z0)] [] w) : Tot X 68 [.ref o, .int z0] w Q := Tot.mk xo_68 rfl rfl rfl rfl h
theorem eX4_oneIf {X : Option (Nat × (Nat → Int32))} {z0 : Int32} {w : xW} {Q : Option Value → xW → Prop} (h : V X 69 Q (0, 0) 0 [(0, .int z0)] [] w) : Tot X 69 [.int z0] w Q := Tot.mk xo_69 rfl rfl rfl rfl h
theorem eX4_cellWords {X : Option (Nat × (Nat → Int32))} {z0 : Int32} {w : xW} {Q : Option Value → xW → Prop} (h : V X 70 Q (0, 0) 0 [(0, .int z0)] [] w) : Tot X 70 [.int z0] w Q := Tot.mk xo_70 rfl rfl rfl rfl h
theorem eX4_cellsPerBlock {X : Option (Nat × (Nat → Int32))} {z0 : Int32} {w : xW} {Q : Option Value → xW → Prop} (h : V X 71 Q (0, 0) 0 [(0, .int z0)] [] w) : Tot X 71 [.int z0] w Q := Tot.mk xo_71 rfl rfl rfl rfl h
theorem eX4_classFor {X : Option (Nat × (Nat → Int32))} {z0 : Int32} {w : xW} {Q : Option Value → xW → Prop} (h : V X 72 Q (0, 0) 0 [(0, .int z0)] [] w) : Tot X 72 [.int z0] w Q := Tot.mk xo_72 rfl rfl rfl rfl h
theorem eX4_isRoot {X : Option (Nat × (Nat → Int32))} {z0 : Int32} {w : xW} {Q : Option Value → xW → Prop} (h : V X 73 Q (0, 0) 0 [(0, .int z0)] [] w) : Tot X 73 [.int z0] w Q := Tot.mk xo_73 rfl rfl rfl rfl h
theorem eX4_rootFault {X : Option (Nat × (Nat → Int32))} {o : Nat} {z0 : Int32} {w : xW} {Q : Option Value → xW → Prop} (h : V X 74 Q (0, 0) 0 [(0, .ref o), (1, .int z0)] [] w) : Tot X 74 [.ref o, .int z0] w Q := Tot.mk xo_74 rfl rfl rfl rfl h
theorem eX4_fieldFault {X : Option (Nat × (Nat → Int32))} {o : Nat} {z0 : Int32} {z1 : Int32} {w : xW} {Q : Option Value → xW → Prop} (h : V X 75 Q (0, 0) 0 [(0, .ref o), (1, .int z0), (2, .int z1)] [] w) : Tot X 75 [.ref o, .int z0, .int z1] w Q := Tot.mk xo_75 rfl rfl rfl rfl h
theorem eX4_tell {X : Option (Nat × (Nat → Int32))} {o : Nat} {z0 : Int32} {z1 : Int32} {w : xW} {Q : Option Value → xW → Prop} (h : V X 76 Q (0, 0) 0 [(0, .ref o), (1, .int z0), (2, .int z1)] [] w) : Tot X 76 [.ref o, .int z0, .int z1] w Q := Tot.mk xo_76 rfl rfl rfl rfl h
theorem eX4_cellFor {X : Option (Nat × (Nat → Int32))} {o : Nat} {z0 : Int32} {w : xW} {Q : Option Value → xW → Prop} (h : V X 77 Q (0, 0) 0 [(0, .ref o), (1, .int z0)] [] w) : Tot X 77 [.ref o, .int z0] w Q := Tot.mk xo_77 rfl rfl rfl rfl h
theorem eX4_markAll {X : Option (Nat × (Nat → Int32))} {o : Nat} {w : xW} {Q : Option Value → xW → Prop} (h : V X 78 Q (0, 0) 0 [(0, .ref o)] [] w) : Tot X 78 [.ref o] w Q := Tot.mk xo_78 rfl rfl rfl rfl h
theorem eX4_comeToHeld {X : Option (Nat × (Nat → Int32))} {o : Nat} {z0 : Nat} {w : xW} {Q : Option Value → xW → Prop} (h : V X 79 Q (0, 0) 0 [(0, .ref o), (1, .ref z0)] [] w) : Tot X 79 [.ref o, .ref z0] w Q := Tot.mk xo_79 rfl rfl rfl rfl h
theorem eX4_heldObjects {X : Option (Nat × (Nat → Int32))} {o : Nat} {w : xW} {Q : Option Value → xW → Prop} (h : V X 80 Q (0, 0) 0 [(0, .ref o)] [] w) : Tot X 80 [.ref o] w Q := Tot.mk xo_80 rfl rfl rfl rfl h
theorem eX4_cutWeakFields {X : Option (Nat × (Nat → Int32))} {o : Nat} {w : xW} {Q : Option Value → xW → Prop} (h : V X 81 Q (0, 0) 0 [(0, .ref o)] [] w) : Tot X 81 [.ref o] w Q := Tot.mk xo_81 rfl rfl rfl rfl h
theorem eX4_queueWatched {X : Option (Nat × (Nat → Int32))} {o : Nat} {w : xW} {Q : Option Value → xW → Prop} (h : V X 82 Q (0, 0) 0 [(0, .ref o)] [] w) : Tot X 82 [.ref o] w Q := Tot.mk xo_82 rfl rfl rfl rfl h
theorem eX4_addObject {X : Option (Nat × (Nat → Int32))} {o : Nat} {z0 : Int64} {z1 : Int32} {w : xW} {Q : Option Value → xW → Prop} (h : V X 83 Q (0, 0) 0 [(0, .ref o), (1, .long z0), (3, .int z1)] [] w) : Tot X 83 [.ref o, .long z0, .int z1] w Q := Tot.mk xo_83 rfl rfl rfl rfl h
theorem eX4_fieldTerm {X : Option (Nat × (Nat → Int32))} {o : Nat} {z0 : Int32} {z1 : Int32} {w : xW} {Q : Option Value → xW → Prop} (h : V X 84 Q (0, 0) 0 [(0, .ref o), (1, .int z0), (2, .int z1)] [] w) : Tot X 84 [.ref o, .int z0, .int z1] w Q := Tot.mk xo_84 rfl rfl rfl rfl h
theorem eX5_init {X : Option (Nat × (Nat → Int32))} {o : Nat} {z0 : Int32} {w : xW} {Q : Option Value → xW → Prop} (h : V X 85 Q (0, 0) 0 [(0, .ref o), (1, .int z0)] [] w) : Tot X 85 [.ref o, .int z0] w Q := Tot.mkI xo_85 rfl rfl rfl rfl h
theorem eX5_in {X : Option (Nat × (Nat → Int32))} {z0 : Int32} {z1 : Int32} {z2 : Int32} {w : xW} {Q : Option Value → xW → Prop} (h : V X 86 Q (0, 0) 0 [(0, .int z0), (1, .int z1), (2, .int z2)] [] w) : Tot X 86 [.int z0, .int z1, .int z2] w Q := Tot.mk xo_86 rfl rfl rfl rfl h
theorem eX5_isRoot {X : Option (Nat × (Nat → Int32))} {z0 : Int32} {w : xW} {Q : Option Value → xW → Prop} (h : V X 87 Q (0, 0) 0 [(0, .int z0)] [] w) : Tot X 87 [.int z0] w Q := Tot.mk xo_87 rfl rfl rfl rfl h
theorem eX5_cellOf {X : Option (Nat × (Nat → Int32))} {z0 : Int32} {w : xW} {Q : Option Value → xW → Prop} (h : V X 88 Q (0, 0) 0 [(0, .int z0)] [] w) : Tot X 88 [.int z0] w Q := Tot.mk xo_88 rfl rfl rfl rfl h
theorem eX5_begin {X : Option (Nat × (Nat → Int32))} {o : Nat} {w : xW} {Q : Option Value → xW → Prop} (h : V X 89 Q (0, 0) 0 [(0, .ref o)] [] w) : Tot X 89 [.ref o] w Q := Tot.mk xo_89 rfl rfl rfl rfl h
theorem eX5_meet {X : Option (Nat × (Nat → Int32))} {o : Nat} {z0 : Int32} {w : xW} {Q : Option Value → xW → Prop} (h : V X 90 Q (0, 0) 0 [(0, .ref o), (1, .int z0)] [] w) : Tot X 90 [.ref o, .int z0] w Q := Tot.mk xo_90 rfl rfl rfl rfl h
theorem eX5_follow {X : Option (Nat × (Nat → Int32))} {o : Nat} {w : xW} {Q : Option Value → xW → Prop} (h : V X 91 Q (0, 0) 0 [(0, .ref o)] [] w) : Tot X 91 [.ref o] w Q := Tot.mk xo_91 rfl rfl rfl rfl h
theorem eX5_reach {X : Option (Nat × (Nat → Int32))} {o : Nat} {w : xW} {Q : Option Value → xW → Prop} (h : V X 92 Q (0, 0) 0 [(0, .ref o)] [] w) : Tot X 92 [.ref o] w Q := Tot.mk xo_92 rfl rfl rfl rfl h
theorem eX5_loosen {X : Option (Nat × (Nat → Int32))} {o : Nat} {w : xW} {Q : Option Value → xW → Prop} (h : V X 93 Q (0, 0) 0 [(0, .ref o)] [] w) : Tot X 93 [.ref o] w Q := Tot.mk xo_93 rfl rfl rfl rfl h
theorem eX5_markNow {X : Option (Nat × (Nat → Int32))} {o : Nat} {w : xW} {Q : Option Value → xW → Prop} (h : V X 94 Q (0, 0) 0 [(0, .ref o)] [] w) : Tot X 94 [.ref o] w Q := Tot.mk xo_94 rfl rfl rfl rfl h
theorem eX5_objectsIn {X : Option (Nat × (Nat → Int32))} {o : Nat} {z0 : Int32} {w : xW} {Q : Option Value → xW → Prop} (h : V X 95 Q (0, 0) 0 [(0, .ref o), (1, .int z0)] [] w) : Tot X 95 [.ref o, .int z0] w Q := Tot.mk xo_95 rfl rfl rfl rfl h
theorem eX5_emptyIn {X : Option (Nat × (Nat → Int32))} {o : Nat} {z0 : Int32} {w : xW} {Q : Option Value → xW → Prop} (h : V X 96 Q (0, 0) 0 [(0, .ref o), (1, .int z0)] [] w) : Tot X 96 [.ref o, .int z0] w Q := Tot.mk xo_96 rfl rfl rfl rfl h
theorem eX5_sweepBlock {X : Option (Nat × (Nat → Int32))} {o : Nat} {z0 : Int32} {w : xW} {Q : Option Value → xW → Prop} (h : V X 97 Q (0, 0) 0 [(0, .ref o), (1, .int z0)] [] w) : Tot X 97 [.ref o, .int z0] w Q := Tot.mk xo_97 rfl rfl rfl rfl h
theorem eX5_emptyCell {X : Option (Nat × (Nat → Int32))} {o : Nat} {z0 : Int32} {w : xW} {Q : Option Value → xW → Prop} (h : V X 98 Q (0, 0) 0 [(0, .ref o), (1, .int z0)] [] w) : Tot X 98 [.ref o, .int z0] w Q := Tot.mk xo_98 rfl rfl rfl rfl h
theorem eX5_takeFree {X : Option (Nat × (Nat → Int32))} {o : Nat} {z0 : Int32} {w : xW} {Q : Option Value → xW → Prop} (h : V X 99 Q (0, 0) 0 [(0, .ref o), (1, .int z0)] [] w) : Tot X 99 [.ref o, .int z0] w Q := Tot.mk xo_99 rfl rfl rfl rfl h
theorem eX5_room {X : Option (Nat × (Nat → Int32))} {o : Nat} {z0 : Int32} {w : xW} {Q : Option Value → xW → Prop} (h : V X 100 Q (0, 0) 0 [(0, .ref o), (1, .int z0)] [] w) : Tot X 100 [.ref o, .int z0] w Q := Tot.mk xo_100 rfl rfl rfl rfl h
theorem eX5_make {X : Option (Nat × (Nat → Int32))} {o : Nat} {z0 : Int32} {z1 : Int32} {w : xW} {Q : Option Value → xW → Prop} (h : V X 101 Q (0, 0) 0 [(0, .ref o), (1, .int z0), (2, .int z1)] [] w) : Tot X 101 [.ref o, .int z0, .int z1] w Q := Tot.mk xo_101 rfl rfl rfl rfl h
theorem eX5_wrong {X : Option (Nat × (Nat → Int32))} {o : Nat} {z0 : Int32} {z1 : Int32} {w : xW} {Q : Option Value → xW → Prop} (h : V X 102 Q (0, 0) 0 [(0, .ref o), (1, .int z0), (2, .int z1)] [] w) : Tot X 102 [.ref o, .int z0, .int z1] w Q := Tot.mk xo_102 rfl rfl rfl rfl h
theorem eX5_set {X : Option (Nat × (Nat → Int32))} {o : Nat} {z0 : Int32} {z1 : Int32} {z2 : Int32} {w : xW} {Q : Option Value → xW → Prop} (h : V X 103 Q (0, 0) 0 [(0, .ref o), (1, .int z0), (2, .int z1), (3, .int z2)] [] w) : Tot X 103 [.ref o, .int z0, .int z1, .int z2] w Q := Tot.mk xo_103 rfl rfl rfl rfl h
theorem eX5_link {X : Option (Nat × (Nat → Int32))} {o : Nat} {z0 : Int32} {z1 : Int32} {z2 : Int32} {z3 : Int32} {w : xW} {Q : Option Value → xW → Prop} (h : V X 104 Q (0, 0) 0 [(0, .ref o), (1, .int z0), (2, .int z1), (3, .int z2), (4, .int z3)] [] w) : Tot X 104 [.ref o, .int z0, .int z1, .int z2, .int z3] w Q := Tot.mk xo_104 rfl rfl rfl rfl h
theorem eX5_refers {X : Option (Nat × (Nat → Int32))} {o : Nat} {z0 : Int32} {z1 : Int32} {w : xW} {Q : Option Value → xW → Prop} (h : V X 105 Q (0, 0) 0 [(0, .ref o), (1, .int z0), (2, .int z1)] [] w) : Tot X 105 [.ref o, .int z0, .int z1] w Q := Tot.mk xo_105 rfl rfl rfl rfl h
theorem eX5_number {X : Option (Nat × (Nat → Int32))} {o : Nat} {z0 : Int32} {z1 : Int32} {w : xW} {Q : Option Value → xW → Prop} (h : V X 106 Q (0, 0) 0 [(0, .ref o), (1, .int z0), (2, .int z1)] [] w) : Tot X 106 [.ref o, .int z0, .int z1] w Q := Tot.mk xo_106 rfl rfl rfl rfl h
theorem eX5_load {X : Option (Nat × (Nat → Int32))} {o : Nat} {z0 : Int32} {z1 : Int32} {z2 : Int32} {w : xW} {Q : Option Value → xW → Prop} (h : V X 107 Q (0, 0) 0 [(0, .ref o), (1, .int z0), (2, .int z1), (3, .int z2)] [] w) : Tot X 107 [.ref o, .int z0, .int z1, .int z2] w Q := Tot.mk xo_107 rfl rfl rfl rfl h
theorem eX5_nameOf {X : Option (Nat × (Nat → Int32))} {o : Nat} {z0 : Int32} {w : xW} {Q : Option Value → xW → Prop} (h : V X 108 Q (0, 0) 0 [(0, .ref o), (1, .int z0)] [] w) : Tot X 108 [.ref o, .int z0] w Q := Tot.mk xo_108 rfl rfl rfl rfl h
theorem eX5_copy {X : Option (Nat × (Nat → Int32))} {o : Nat} {z0 : Int32} {z1 : Int32} {w : xW} {Q : Option Value → xW → Prop} (h : V X 109 Q (0, 0) 0 [(0, .ref o), (1, .int z0), (2, .int z1)] [] w) : Tot X 109 [.ref o, .int z0, .int z1] w Q := Tot.mk xo_109 rfl rfl rfl rfl h
theorem eX5_drop {X : Option (Nat × (Nat → Int32))} {o : Nat} {z0 : Int32} {w : xW} {Q : Option Value → xW → Prop} (h : V X 110 Q (0, 0) 0 [(0, .ref o), (1, .int z0)] [] w) : Tot X 110 [.ref o, .int z0] w Q := Tot.mk xo_110 rfl rfl rfl rfl h
theorem eX5_watch {X : Option (Nat × (Nat → Int32))} {o : Nat} {z0 : Int32} {z1 : Int32} {w : xW} {Q : Option Value → xW → Prop} (h : V X 111 Q (0, 0) 0 [(0, .ref o), (1, .int z0), (2, .int z1)] [] w) : Tot X 111 [.ref o, .int z0, .int z1] w Q := Tot.mk xo_111 rfl rfl rfl rfl h
theorem eX5_next {X : Option (Nat × (Nat → Int32))} {o : Nat} {z0 : Int32} {w : xW} {Q : Option Value → xW → Prop} (h : V X 112 Q (0, 0) 0 [(0, .ref o), (1, .int z0)] [] w) : Tot X 112 [.ref o, .int z0] w Q := Tot.mk xo_112 rfl rfl rfl rfl h
theorem eX5_mark {X : Option (Nat × (Nat → Int32))} {o : Nat} {w : xW} {Q : Option Value → xW → Prop} (h : V X 113 Q (0, 0) 0 [(0, .ref o)] [] w) : Tot X 113 [.ref o] w Q := Tot.mk xo_113 rfl rfl rfl rfl h
theorem eX5_sweep {X : Option (Nat × (Nat → Int32))} {o : Nat} {w : xW} {Q : Option Value → xW → Prop} (h : V X 114 Q (0, 0) 0 [(0, .ref o)] [] w) : Tot X 114 [.ref o] w Q := Tot.mk xo_114 rfl rfl rfl rfl h
theorem eX5_object {X : Option (Nat × (Nat → Int32))} {o : Nat} {z0 : Int32} {z1 : Int32} {w : xW} {Q : Option Value → xW → Prop} (h : V X 115 Q (0, 0) 0 [(0, .ref o), (1, .int z0), (2, .int z1)] [] w) : Tot X 115 [.ref o, .int z0, .int z1] w Q := Tot.mk xo_115 rfl rfl rfl rfl h
theorem eX5_at {X : Option (Nat × (Nat → Int32))} {o : Nat} {z0 : Int32} {w : xW} {Q : Option Value → xW → Prop} (h : V X 116 Q (0, 0) 0 [(0, .ref o), (1, .int z0)] [] w) : Tot X 116 [.ref o, .int z0] w Q := Tot.mk xo_116 rfl rfl rfl rfl h
theorem eX5_block {X : Option (Nat × (Nat → Int32))} {o : Nat} {z0 : Int32} {z1 : Int32} {w : xW} {Q : Option Value → xW → Prop} (h : V X 117 Q (0, 0) 0 [(0, .ref o), (1, .int z0), (2, .int z1)] [] w) : Tot X 117 [.ref o, .int z0, .int z1] w Q := Tot.mk xo_117 rfl rfl rfl rfl h
theorem eX5_blocksThat {X : Option (Nat × (Nat → Int32))} {o : Nat} {z0 : Int32} {w : xW} {Q : Option Value → xW → Prop} (h : V X 118 Q (0, 0) 0 [(0, .ref o), (1, .int z0)] [] w) : Tot X 118 [.ref o, .int z0] w Q := Tot.mk xo_118 rfl rfl rfl rfl h
theorem eX5_objects {X : Option (Nat × (Nat → Int32))} {o : Nat} {z0 : Int32} {z1 : Int32} {w : xW} {Q : Option Value → xW → Prop} (h : V X 119 Q (0, 0) 0 [(0, .ref o), (1, .int z0), (2, .int z1)] [] w) : Tot X 119 [.ref o, .int z0, .int z1] w Q := Tot.mk xo_119 rfl rfl rfl rfl h
theorem eX5_count {X : Option (Nat × (Nat → Int32))} {o : Nat} {z0 : Int32} {w : xW} {Q : Option Value → xW → Prop} (h : V X 120 Q (0, 0) 0 [(0, .ref o), (1, .int z0)] [] w) : Tot X 120 [.ref o, .int z0] w Q := Tot.mk xo_120 rfl rfl rfl rfl h
theorem eX5_same {X : Option (Nat × (Nat → Int32))} {o : Nat} {z0 : Int32} {z1 : Int32} {w : xW} {Q : Option Value → xW → Prop} (h : V X 121 Q (0, 0) 0 [(0, .ref o), (1, .int z0), (2, .int z1)] [] w) : Tot X 121 [.ref o, .int z0, .int z1] w Q := Tot.mk xo_121 rfl rfl rfl rfl h
theorem eX5_sum {X : Option (Nat × (Nat → Int32))} {o : Nat} {z0 : Int32} {w : xW} {Q : Option Value → xW → Prop} (h : V X 122 Q (0, 0) 0 [(0, .ref o), (1, .int z0)] [] w) : Tot X 122 [.ref o, .int z0] w Q := Tot.mk xo_122 rfl rfl rfl rfl h
theorem eL_cell {X : Option (Nat × (Nat → Int32))} {z0 : Nat} {z1 : Int32} {w : xW} {Q : Option Value → xW → Prop} (h : V X 123 Q (0, 0) 0 [(0, .ref z0), (1, .int z1)] [] w) : Tot X 123 [.ref z0, .int z1] w Q := Tot.mk xo_123 rfl rfl rfl rfl h
end
section
/-! short forms of the rules, for methods that make nothing -/
section VSH
variable {X : Option (Nat × (Nat → Int32))} {k : Nat} {Q : Option Value → xW → Prop} {n : Nat × Nat} {pc nx a b : Nat} {ls : xL} {st : List Value} {w : xW}
theorem V.cv {idx j o : Nat} {as rest : List Value} {fs : List Value} {Qj : Option Value → xW → Prop} (hd : xm_i k pc = some (.invokevirtual idx, nx, j, b)) (ht : Tot none j (.ref o :: as) w Qj) (hst : as.reverse ++ .ref o :: rest = st) (hw : w[o]? = some (.inr (xm_c j, fs)))
    (kk : ∀ v w', Qj v w' → V X k Q n nx ls (v.toList ++ rest) w') (hlen : Nat.beq as.length b = true := by rfl) (hW : Nat.ble (rest.map fun v => v.category).sum 8 = true := by rfl) (ha : xm_a j = false := by rfl) (hc : (xm_R j).cells = 0 := by rfl) (hs : (xm_R j).slots = 0 := by rfl) (hn : Nat.ble n.1 (xm_R k).cells = true := by rfl) (hm : Nat.ble n.2 (xm_R k).slots = true := by rfl) : V X k Q n pc ls st w := by
  refine V.callV hd ht hst hw (Nat.eq_of_beq_eq_true hlen) (Nat.le_of_ble_eq_true hW) (Or.inl rfl) (Or.inl ha) ⟨by rw [hc]; exact Nat.le_of_ble_eq_true hn, by rw [hs]; exact Nat.le_of_ble_eq_true hm⟩ ?_
  rw [hc, hs]
  exact kk
theorem V.cs {idx j : Nat} {as rest : List Value} {Qj : Option Value → xW → Prop} (hd : xm_i k pc = some (.invokestatic idx, nx, j, b)) (ht : Tot none j as w Qj) (hst : as.reverse ++ rest = st)
    (kk : ∀ v w', Qj v w' → V X k Q n nx ls (v.toList ++ rest) w') (hj : Nat.ble j 899 = true := by rfl) (hlen : Nat.beq as.length b = true := by rfl) (hW : Nat.ble (rest.map fun v => v.category).sum 8 = true := by rfl) (ha : xm_a j = false := by rfl) (hc : (xm_R j).cells = 0 := by rfl) (hs : (xm_R j).slots = 0 := by rfl) (hn : Nat.ble n.1 (xm_R k).cells = true := by rfl) (hm : Nat.ble n.2 (xm_R k).slots = true := by rfl) : V X k Q n pc ls st w := by
  refine V.callS hd hj ht hst (Nat.eq_of_beq_eq_true hlen) (Nat.le_of_ble_eq_true hW) (Or.inl rfl) (Or.inl ha) ⟨by rw [hc]; exact Nat.le_of_ble_eq_true hn, by rw [hs]; exact Nat.le_of_ble_eq_true hm⟩ ?_
  rw [hc, hs]
  exact kk
theorem V.ri {x : Int32} (hd : xm_i k pc = some (.ireturn, nx, a, b)) (hq : Q (some (.int x)) w) (hr : xm_r k = some .int := by rfl) (hn : Nat.ble n.1 (xm_R k).cells = true := by rfl) (hm : Nat.ble n.2 (xm_R k).slots = true := by rfl) : V X k Q n pc ls [.int x] w :=
  V.reti hd hr ⟨Nat.le_of_ble_eq_true hn, Nat.le_of_ble_eq_true hm⟩ hq
theorem V.rz {x : Int32} (hd : xm_i k pc = some (.ireturn, nx, a, b)) (hx : x = 0 ∨ x = 1) (hq : Q (some (.int x)) w) (hr : xm_r k = some .boolean := by rfl) (hn : Nat.ble n.1 (xm_R k).cells = true := by rfl) (hm : Nat.ble n.2 (xm_R k).slots = true := by rfl) : V X k Q n pc ls [.int x] w :=
  V.retz hd hr ⟨Nat.le_of_ble_eq_true hn, Nat.le_of_ble_eq_true hm⟩ hx hq
theorem V.rl {x : Int64} (hd : xm_i k pc = some (.lreturn, nx, a, b)) (hq : Q (some (.long x)) w) (hr : xm_r k = some .long := by rfl) (hn : Nat.ble n.1 (xm_R k).cells = true := by rfl) (hm : Nat.ble n.2 (xm_R k).slots = true := by rfl) : V X k Q n pc ls [.long x] w :=
  V.retl hd hr ⟨Nat.le_of_ble_eq_true hn, Nat.le_of_ble_eq_true hm⟩ hq
theorem V.rv (hd : xm_i k pc = some (.return_, nx, a, b)) (hq : Q none w) (hr : xm_r k = none := by rfl) (hn : Nat.ble n.1 (xm_R k).cells = true := by rfl) (hm : Nat.ble n.2 (xm_R k).slots = true := by rfl) : V X k Q n pc ls [] w :=
  V.retv hd hr ⟨Nat.le_of_ble_eq_true hn, Nat.le_of_ble_eq_true hm⟩ hq
/-- a put of an int -/
theorem V.puti {o ci : Nat} {fs : List Value} {idx : Nat} {x : Int32} {w' : xW} (hd : xm_i k pc = some (.putfield idx, nx, ci, b)) (hw : w[o]? = some (.inr (ci, fs))) (hw' : w.set o (.inr (ci, fs.set b (.int x))) = w') (kk : V X k Q n nx ls st w') (hb : Nat.ble (b + 1) fs.length = true := by rfl) (hty : xc_t ci b = .int := by rfl) (hfin : (xc_T ci b).2.2.2 = false := by rfl) : V X k Q n pc ls (.int x :: .ref o :: st) w := by
  intro p l e s m args below meth c D cI cZ A QQ ad0 n0 C hR ad H locs La hG hl
  obtain ⟨hdc, hnx, hex⟩ := C.2.2.2.2.2.2.2.2.2 pc _ hd
  dsimp only at hdc hnx hex
  subst hnx
  obtain ⟨hcl, hlt, hlink⟩ := x_fl_ok _ hex
  have h6 := x_cl6 hcl
  refine va_put (D := D) (ci := ci) (v := .int x) (ty := .int) (fs := fs.map (x_tr ad)) (C := xc_n ci) (T := xc_T ci) (N := xc_N ci) C.1 C.2.1 C.2.2.2.2.1 (x_us ci h6) (xc_t ci) (x_tyo ci h6) (x_nmo ci h6) C.2.2.2.1 C.2.2.2.2.2.1 hG.1 hG.2.1 hG.2.2.1 o (x_rl_at hw) hcl b hlt (C.2.2.2.2.1 _ hlink) (fun _ h => h) hfin (by rw [x_tyo ci h6 b hlt, hty]) rfl rfl (by rw [List.length_map]; exact Nat.le_of_ble_eq_true hb) hdc (fun H1 locs1 h1 h2 h3 => ?_)
  have he : (Sum.inr (ci, (fs.map (x_tr ad)).set b (.int x)) : va_E) = x_trE cI cZ ad (.inr (ci, fs.set b (.int x))) := by
    simp only [x_trE, List.map_set]
    rfl
  rw [he] at h1 h2
  exact kk p l e s m args below meth c D cI cZ A QQ ad0 n0 C hR ad H1 locs1 La (hG.set hw' h1 h2 h3) hl
end VSH
end
section
section VTF
variable {X : Option (Nat × (Nat → Int32))} {k : Nat} {Q : Option Value → xW → Prop} {n : Nat × Nat} {pc nx a b : Nat} {ls : xL} {st : List Value} {w : xW} {ins : Instr}
theorem V.brT {P : Prop} {r : List Value} (hd : xm_i k pc = some (ins, nx, a, b)) (hs : x_br ins st = some (P, r)) (hP : P) (kt : V X k Q n a ls r w) : V X k Q n pc ls st w := V.br hd hs (fun _ => kt) (fun h => absurd hP h)
theorem V.brF {P : Prop} {r : List Value} (hd : xm_i k pc = some (ins, nx, a, b)) (hs : x_br ins st = some (P, r)) (hP : ¬ P) (kf : V X k Q n nx ls r w) : V X k Q n pc ls st w := V.br hd hs (fun h => absurd h hP) (fun _ => kf)
theorem V.ialE {o m j : Nat} {f : Nat → Int32} {i y : Int32} (hd : xm_i k pc = some (.iaload, nx, a, b)) (hw : w[o]? = some (.inl (false, m, f))) (hi : i = nI j) (hj : j < m) (hm : m < 2 ^ 31) (hy : f j = y) (kk : V X k Q n nx ls (.int y :: st) w) : V X k Q n pc ls (.int i :: .ref o :: st) w := V.iald hd hw hi hj hm (by rw [hy]; exact kk)
theorem V.zalE {o m j : Nat} {f : Nat → Int32} {i y : Int32} (hd : xm_i k pc = some (.baload, nx, a, b)) (hw : w[o]? = some (.inl (true, m, f))) (hi : i = nI j) (hj : j < m) (hm : m < 2 ^ 31) (hy : f j = y) (kk : V X k Q n nx ls (.int y :: st) w) : V X k Q n pc ls (.int i :: .ref o :: st) w := V.zald hd hw hi hj hm (by rw [hy]; exact kk)
end VTF
abbrev rI (x : Int32) (w : xW) : Option Value → xW → Prop := fun o w' => o = some (.int x) ∧ w' = w
abbrev rJ (x : Int64) (w : xW) : Option Value → xW → Prop := fun o w' => o = some (.long x) ∧ w' = w
abbrev rN (w : xW) : Option Value → xW → Prop := fun o w' => o = none ∧ w' = w
theorem m1_toInt : (-1 : Int32).toInt = -1 := by decide
theorem nI_m1 {n : Nat} (h : n < 2 ^ 31) : ¬ nI n = -1 := by
  intro e
  have e2 := congrArg Int32.toInt e
  rw [nI_toInt h, m1_toInt] at e2
  omega
theorem m1_nI {n : Nat} (h : n < 2 ^ 31) : ¬ (-1 : Int32) = nI n := fun e => nI_m1 h e.symm
theorem m1_lt0 : (-1 : Int32) < 0 := by decide
theorem nI_inj {a b : Nat} (ha : a < 2 ^ 31) (hb : b < 2 ^ 31) (h : nI a = nI b) : a = b := (nI_eq ha hb).mp h
theorem nI_ne {a b : Nat} (ha : a < 2 ^ 31) (hb : b < 2 ^ 31) (h : a ≠ b) : ¬ nI a = nI b := fun e => h (nI_inj ha hb e)
theorem i1_ne0 : ¬ nI 1 = 0 := by decide
theorem i0_eq0 : nI 0 = 0 := rfl
/-- cells of a class: how many words, how many to a block -/
def cwd (c : Nat) : Nat := 2 * 2 ^ c
def cpb (c : Nat) : Nat := 16 / 2 ^ c
theorem cw_i : ∀ c, c < 4 → nI 2 <<< (nI c &&& 31) = nI (cwd c) := by decide
theorem cp_i : ∀ c, c < 4 → nI 16 >>> (nI c &&& 31) = nI (cpb c) := by decide
theorem cpw : ∀ c, c < 4 → cpb c * cwd c = 32 := by decide
theorem cwd_pos (c : Nat) : 2 ≤ cwd c := by
  unfold cwd
  have : 0 < 2 ^ c := Nat.pow_pos (by omega)
  omega
theorem cwd_le : ∀ c, c < 4 → cwd c ≤ 16 := by decide
theorem cpb_le : ∀ c, c < 4 → cpb c ≤ 16 := by decide
theorem cpb_pos : ∀ c, c < 4 → 1 ≤ cpb c := by decide
theorem cw_in {c i : Nat} (hc : c < 4) (hi : i < cpb c) : i * cwd c + cwd c ≤ 32 := by
  have h := cpw c hc
  have h2 : (i + 1) * cwd c ≤ cpb c * cwd c := Nat.mul_le_mul_right _ hi
  rw [h, Nat.add_mul, Nat.one_mul] at h2
  exact h2
/-- how many of the numbers below n -/
def cn (p : Nat → Bool) : Nat → Nat
  | 0 => 0
  | n + 1 => cn p n + bif p n then 1 else 0
theorem cn_le (p : Nat → Bool) : ∀ n, cn p n ≤ n
  | 0 => Nat.le_refl _
  | n + 1 => by
    have := cn_le p n
    unfold cn
    cases p n <;> simp <;> omega
theorem cn_congr {p q : Nat → Bool} : ∀ {n : Nat}, (∀ i, i < n → p i = q i) → cn p n = cn q n
  | 0, _ => rfl
  | n + 1, h => by
    unfold cn
    rw [cn_congr (fun i hi => h i (by omega)), h n (by omega)]
theorem cn_zero {p : Nat → Bool} : ∀ {n : Nat}, cn p n = 0 ↔ ∀ i, i < n → p i = false
  | 0 => ⟨fun _ i h => absurd h (Nat.not_lt_zero i), fun _ => rfl⟩
  | n + 1 => by
    unfold cn
    have ih := cn_zero (p := p) (n := n)
    constructor
    · intro h i hi
      have h1 : cn p n = 0 := by omega
      cases hp : p n with
      | true => rw [hp, cond_true] at h; omega
      | false =>
        by_cases q : i = n
        · subst q; exact hp
        · exact ih.mp h1 i (by omega)
    · intro h
      rw [ih.mpr (fun i hi => h i (by omega)), h n (by omega)]
      rfl
end
section
/-! THE CLASS: its cells. a: the arrays (0 names, 1 fields, 2 watched, 3 kinds, 4 values; 5 order, 6 ranks of marks; 7 order, 8 ranks of walk; 9 members; 10 classes, 11 unswept; 12 roots), v: the numbers (0 made, 1 markings; 2 size, 3 looked of marks; 4 size, 5 looked of walk; 6 size of the queue; 7 sweeps), r: cells of others behind them -/
def wC (B : Nat) (a : Nat → Nat → Int32) (v : Nat → Int32) (r : xW) : xW :=
  .inr (4, [.ref 1, .ref 15, .ref 13, .ref 18, .ref 7, .ref 10, .int (v 0), .int (v 1)]) ::
  .inr (2, [.ref 2, .ref 3, .ref 4, .ref 5, .ref 6]) ::
  .inl (false, 32 * B, a 0) :: .inl (false, 32 * B, a 1) :: .inl (true, 32 * B, a 2) :: .inl (false, 32 * B, a 3) :: .inl (false, 32 * B, a 4) ::
  .inr (3, [.ref 8, .ref 9, .int (v 2), .int (v 3)]) :: .inl (false, 16 * B, a 5) :: .inl (false, 32 * B, a 6) ::
  .inr (3, [.ref 11, .ref 12, .int (v 4), .int (v 5)]) :: .inl (false, 16 * B, a 7) :: .inl (false, 32 * B, a 8) ::
  .inr (1, [.ref 14, .int (v 6)]) :: .inl (false, 16 * B, a 9) ::
  .inr (0, [.ref 1, .ref 7, .ref 16, .ref 17, .int (v 7)]) :: .inl (false, B, a 10) :: .inl (true, B, a 11) ::
  .inl (false, 16, a 12) :: r
/-- an array's place gets a value -/
def uA (a : Nat → Nat → Int32) (q j : Nat) (x : Int32) : Nat → Nat → Int32 := fun i => bif Nat.beq i q then upd (a q) j x else a i
/-- a number gets a value -/
def uV (v : Nat → Int32) (q : Nat) (x : Int32) : Nat → Int32 := fun i => bif Nat.beq i q then x else v i
/-- 1 or 0 -/
def oI (p : Prop) [Decidable p] : Int32 := if p then nI 1 else nI 0
end
section
theorem c_oneIf1 {w : xW} : Tot none kX4_oneIf [.int (nI 1)] w (rI (nI 1) w) := by
  refine eX4_oneIf ?_
  refine V.run 10 rfl ?_
  refine V.brF rfl rfl i1_ne0 ?_
  refine V.run 10 rfl ?_
  exact V.ri rfl ⟨rfl, rfl⟩
theorem c_oneIf0 {w : xW} : Tot none kX4_oneIf [.int (nI 0)] w (rI (nI 0) w) := by
  refine eX4_oneIf ?_
  refine V.run 10 rfl ?_
  refine V.brT rfl rfl i0_eq0 ?_
  refine V.run 10 rfl ?_
  exact V.ri rfl ⟨rfl, rfl⟩
theorem c_oneIfz {w : xW} {x : Int32} (h : x = 0 ∨ x = 1) : Tot none kX4_oneIf [.int x] w (rI x w) := by
  rcases h with rfl | rfl
  · exact c_oneIf0
  · exact c_oneIf1
theorem c_cellWords {w : xW} {c : Nat} (hc : c < 4) : Tot none kX4_cellWords [.int (nI c)] w (rI (nI (cwd c)) w) := by
  refine eX4_cellWords ?_
  refine V.run 10 rfl ?_
  rw [cw_i c hc]
  exact V.ri rfl ⟨rfl, rfl⟩
theorem c_cellsPerBlock {w : xW} {c : Nat} (hc : c < 4) : Tot none kX4_cellsPerBlock [.int (nI c)] w (rI (nI (cpb c)) w) := by
  refine eX4_cellsPerBlock ?_
  refine V.run 10 rfl ?_
  rw [cp_i c hc]
  exact V.ri rfl ⟨rfl, rfl⟩
theorem c_isRoot1 {w : xW} {x : Nat} (hx : x < 16) : Tot none kX4_isRoot [.int (nI x)] w (rI (nI 1) w) := by
  refine eX4_isRoot ?_
  refine V.run 10 rfl ?_
  refine V.brF rfl rfl (nI_pos (by omega)) ?_
  refine V.run 10 rfl ?_
  refine V.brF rfl rfl (nI_ge hx (by omega)) ?_
  refine V.run 10 rfl ?_
  exact V.rz rfl (Or.inr rfl) ⟨rfl, rfl⟩
theorem c_isRoot0 {w : xW} {x : Int32} (hx : x < 0 ∨ nI 16 ≤ x) : Tot none kX4_isRoot [.int x] w (rI (nI 0) w) := by
  refine eX4_isRoot ?_
  refine V.run 10 rfl ?_
  refine V.br rfl rfl (fun h => ?_) (fun h => ?_)
  · refine V.run 10 rfl ?_
    exact V.rz rfl (Or.inl rfl) ⟨rfl, rfl⟩
  · refine V.run 10 rfl ?_
    refine V.brT rfl rfl (hx.resolve_left h) ?_
    refine V.run 10 rfl ?_
    exact V.rz rfl (Or.inl rfl) ⟨rfl, rfl⟩
section CS
variable {B : Nat} {a : Nat → Nat → Int32} {v : Nat → Int32} {r : xW}
theorem c_words : Tot none kX2_words [.ref 1] (wC B a v r) (rI (nI (32 * B)) (wC B a v r)) := by
  refine eX2_words ?_
  refine V.run 10 rfl ?_
  exact V.ri rfl ⟨rfl, rfl⟩
theorem c_isWord1 (hB : B ≤ 16) {x : Nat} (hx : x < 32 * B) : Tot none kX2_isWord [.ref 1, .int (nI x)] (wC B a v r) (rI (nI 1) (wC B a v r)) := by
  refine eX2_isWord ?_
  refine V.run 10 rfl ?_
  refine V.brF rfl rfl (nI_pos (by omega)) ?_
  refine V.run 10 rfl ?_
  refine V.brF rfl rfl (nI_ge hx (by omega)) ?_
  refine V.run 10 rfl ?_
  exact V.rz rfl (Or.inr rfl) ⟨rfl, rfl⟩
theorem c_isWord0 : Tot none kX2_isWord [.ref 1, .int (-1)] (wC B a v r) (rI (nI 0) (wC B a v r)) := by
  refine eX2_isWord ?_
  refine V.run 10 rfl ?_
  refine V.brT rfl rfl m1_lt0 ?_
  refine V.run 10 rfl ?_
  exact V.rz rfl (Or.inl rfl) ⟨rfl, rfl⟩
theorem c_nameAt (hB : B ≤ 16) {x : Nat} (hx : x < 32 * B) : Tot none kX2_nameAt [.ref 1, .int (nI x)] (wC B a v r) (rI (a 0 x) (wC B a v r)) := by
  refine eX2_nameAt ?_
  refine V.run 10 rfl ?_
  refine V.cv rfl (c_isWord1 hB hx) rfl rfl ?_
  rintro _ _ ⟨rfl, rfl⟩
  refine V.brF rfl rfl i1_ne0 ?_
  refine V.run 10 rfl ?_
  refine V.iald rfl rfl rfl hx (by omega) ?_
  refine V.run 10 rfl ?_
  exact V.ri rfl ⟨rfl, rfl⟩
theorem c_nameAt0 : Tot none kX2_nameAt [.ref 1, .int (-1)] (wC B a v r) (rI (-1) (wC B a v r)) := by
  refine eX2_nameAt ?_
  refine V.run 10 rfl ?_
  refine V.cv rfl c_isWord0 rfl rfl ?_
  rintro _ _ ⟨rfl, rfl⟩
  refine V.brT rfl rfl i0_eq0 ?_
  refine V.run 10 rfl ?_
  exact V.ri rfl ⟨rfl, rfl⟩
theorem c_fieldsOf (hB : B ≤ 16) {x : Nat} (hx : x < 32 * B) : Tot none kX2_fieldsOf [.ref 1, .int (nI x)] (wC B a v r) (rI (a 1 x) (wC B a v r)) := by
  refine eX2_fieldsOf ?_
  refine V.run 10 rfl ?_
  refine V.cv rfl (c_isWord1 hB hx) rfl rfl ?_
  rintro _ _ ⟨rfl, rfl⟩
  refine V.brF rfl rfl i1_ne0 ?_
  refine V.run 10 rfl ?_
  refine V.iald rfl rfl rfl hx (by omega) ?_
  refine V.run 10 rfl ?_
  exact V.ri rfl ⟨rfl, rfl⟩
theorem c_isWatched (hB : B ≤ 16) {x : Nat} (hx : x < 32 * B) (hw : a 2 x = 0 ∨ a 2 x = 1) : Tot none kX2_isWatched [.ref 1, .int (nI x)] (wC B a v r) (rI (a 2 x) (wC B a v r)) := by
  refine eX2_isWatched ?_
  refine V.run 10 rfl ?_
  refine V.cv rfl (c_isWord1 hB hx) rfl rfl ?_
  rintro _ _ ⟨rfl, rfl⟩
  refine V.brF rfl rfl i1_ne0 ?_
  refine V.run 10 rfl ?_
  refine V.zald rfl rfl rfl hx (by omega) ?_
  rcases hw with h | h
  · refine V.brT rfl rfl h ?_
    refine V.run 10 rfl ?_
    exact V.rz rfl (Or.inl rfl) ⟨by rw [h]; rfl, rfl⟩
  · refine V.brF rfl rfl (by rw [h]; decide) ?_
    refine V.run 10 rfl ?_
    exact V.rz rfl (Or.inr rfl) ⟨by rw [h]; rfl, rfl⟩
theorem c_setWatched (hB : B ≤ 16) {x : Nat} {y : Int32} (hx : x < 32 * B) (hy : y = 0 ∨ y = 1) : Tot none kX2_setWatched [.ref 1, .int (nI x), .int y] (wC B a v r) (rN (wC B (uA a 2 x y) v r)) := by
  refine eX2_setWatched ?_
  refine V.run 10 rfl ?_
  refine V.cv rfl (c_isWord1 hB hx) rfl rfl ?_
  rintro _ _ ⟨rfl, rfl⟩
  refine V.brF rfl rfl i1_ne0 ?_
  refine V.run 10 rfl ?_
  refine V.zast (w' := wC B (uA a 2 x y) v r) rfl rfl rfl hx (by omega) hy rfl ?_
  exact V.rv rfl ⟨rfl, rfl⟩
theorem c_kindOf (hB : B ≤ 16) {x f : Nat} (hx : x + 1 + f < 32 * B) : Tot none kX2_kindOf [.ref 1, .int (nI x), .int (nI f)] (wC B a v r) (rI (a 3 (x + 1 + f)) (wC B a v r)) := by
  refine eX2_kindOf ?_
  refine V.run 20 rfl ?_
  rw [nI_add, nI_add]
  refine V.cv rfl (c_isWord1 hB hx) rfl rfl ?_
  rintro _ _ ⟨rfl, rfl⟩
  refine V.brF rfl rfl i1_ne0 ?_
  refine V.run 10 rfl ?_
  refine V.iald rfl rfl rfl hx (by omega) ?_
  refine V.run 10 rfl ?_
  exact V.ri rfl ⟨rfl, rfl⟩
theorem c_valueOf (hB : B ≤ 16) {x f : Nat} (hx : x + 1 + f < 32 * B) : Tot none kX2_valueOf [.ref 1, .int (nI x), .int (nI f)] (wC B a v r) (rI (a 4 (x + 1 + f)) (wC B a v r)) := by
  refine eX2_valueOf ?_
  refine V.run 20 rfl ?_
  rw [nI_add, nI_add]
  refine V.cv rfl (c_isWord1 hB hx) rfl rfl ?_
  rintro _ _ ⟨rfl, rfl⟩
  refine V.brF rfl rfl i1_ne0 ?_
  refine V.run 10 rfl ?_
  refine V.iald rfl rfl rfl hx (by omega) ?_
  refine V.run 10 rfl ?_
  exact V.ri rfl ⟨rfl, rfl⟩
theorem c_write (hB : B ≤ 16) {x f : Nat} {y z : Int32} (hx : x + 1 + f < 32 * B) : Tot none kX2_write [.ref 1, .int (nI x), .int (nI f), .int y, .int z] (wC B a v r) (rN (wC B (uA (uA a 3 (x + 1 + f) y) 4 (x + 1 + f) z) v r)) := by
  refine eX2_write ?_
  refine V.run 20 rfl ?_
  rw [nI_add, nI_add]
  refine V.cv rfl (c_isWord1 hB hx) rfl rfl ?_
  rintro _ _ ⟨rfl, rfl⟩
  refine V.brF rfl rfl i1_ne0 ?_
  refine V.run 10 rfl ?_
  refine V.iast (w' := wC B (uA a 3 (x + 1 + f) y) v r) rfl rfl rfl hx (by omega) rfl ?_
  refine V.run 10 rfl ?_
  refine V.iast (w' := wC B (uA (uA a 3 (x + 1 + f) y) 4 (x + 1 + f) z) v r) rfl rfl rfl hx (by omega) rfl ?_
  exact V.rv rfl ⟨rfl, rfl⟩
theorem c_remove (hB : B ≤ 16) {x : Nat} (hx : x < 32 * B) : Tot none kX2_remove [.ref 1, .int (nI x)] (wC B a v r) (rN (wC B (uA (uA (uA a 0 x (-1)) 1 x (nI 0)) 2 x (nI 0)) v r)) := by
  refine eX2_remove ?_
  refine V.run 20 rfl ?_
  refine V.cv rfl (c_isWord1 hB hx) rfl rfl ?_
  rintro _ _ ⟨rfl, rfl⟩
  refine V.brF rfl rfl i1_ne0 ?_
  refine V.run 10 rfl ?_
  refine V.iast (w' := wC B (uA a 0 x (-1)) v r) rfl rfl rfl hx (by omega) rfl ?_
  refine V.run 10 rfl ?_
  refine V.iast (w' := wC B (uA (uA a 0 x (-1)) 1 x (nI 0)) v r) rfl rfl rfl hx (by omega) rfl ?_
  refine V.run 10 rfl ?_
  refine V.zast (w' := wC B (uA (uA (uA a 0 x (-1)) 1 x (nI 0)) 2 x (nI 0)) v r) rfl rfl rfl hx (by omega) (Or.inl rfl) rfl ?_
  exact V.rv rfl ⟨rfl, rfl⟩
theorem c_has (hB : B ≤ 16) {b : Nat} (hb : b < B) : Tot none kX0_has [.ref 15, .int (nI b)] (wC B a v r) (rI (nI 1) (wC B a v r)) := by
  refine eX0_has ?_
  refine V.run 10 rfl ?_
  refine V.brF rfl rfl (nI_pos (by omega)) ?_
  refine V.run 10 rfl ?_
  refine V.brF rfl rfl (nI_ge hb (by omega)) ?_
  refine V.run 10 rfl ?_
  exact V.rz rfl (Or.inr rfl) ⟨rfl, rfl⟩
theorem c_has0 {x : Int32} (hx : x < 0 ∨ nI B ≤ x) : Tot none kX0_has [.ref 15, .int x] (wC B a v r) (rI (nI 0) (wC B a v r)) := by
  refine eX0_has ?_
  refine V.run 10 rfl ?_
  refine V.br rfl rfl (fun h => ?_) (fun h => ?_)
  · refine V.run 10 rfl ?_
    exact V.rz rfl (Or.inl rfl) ⟨rfl, rfl⟩
  · refine V.run 10 rfl ?_
    refine V.brT rfl rfl (hx.resolve_left h) ?_
    refine V.run 10 rfl ?_
    exact V.rz rfl (Or.inl rfl) ⟨rfl, rfl⟩
theorem c_classOf (hB : B ≤ 16) {b : Nat} (hb : b < B) : Tot none kX0_classOf [.ref 15, .int (nI b)] (wC B a v r) (rI (a 10 b) (wC B a v r)) := by
  refine eX0_classOf ?_
  refine V.run 10 rfl ?_
  refine V.brF rfl rfl (nI_pos (by omega)) ?_
  refine V.run 10 rfl ?_
  refine V.brF rfl rfl (nI_ge hb (by omega)) ?_
  refine V.run 10 rfl ?_
  refine V.iald rfl rfl rfl hb (by omega) ?_
  refine V.run 10 rfl ?_
  exact V.ri rfl ⟨rfl, rfl⟩
theorem c_isUnswept (hB : B ≤ 16) {b : Nat} (hb : b < B) (hu : a 11 b = 0 ∨ a 11 b = 1) : Tot none kX0_isUnswept [.ref 15, .int (nI b)] (wC B a v r) (rI (a 11 b) (wC B a v r)) := by
  refine eX0_isUnswept ?_
  refine V.run 10 rfl ?_
  refine V.cv rfl (c_has hB hb) rfl rfl ?_
  rintro _ _ ⟨rfl, rfl⟩
  refine V.brF rfl rfl i1_ne0 ?_
  refine V.run 10 rfl ?_
  refine V.zald rfl rfl rfl hb (by omega) ?_
  rcases hu with h | h
  · refine V.brT rfl rfl h ?_
    refine V.run 10 rfl ?_
    exact V.rz rfl (Or.inl rfl) ⟨by rw [h]; rfl, rfl⟩
  · refine V.brF rfl rfl (by rw [h]; decide) ?_
    refine V.run 10 rfl ?_
    exact V.rz rfl (Or.inr rfl) ⟨by rw [h]; rfl, rfl⟩
theorem c_isUnswept0 : Tot none kX0_isUnswept [.ref 15, .int (-1)] (wC B a v r) (rI (nI 0) (wC B a v r)) := by
  refine eX0_isUnswept ?_
  refine V.run 10 rfl ?_
  refine V.cv rfl (c_has0 (Or.inl m1_lt0)) rfl rfl ?_
  rintro _ _ ⟨rfl, rfl⟩
  refine V.brT rfl rfl i0_eq0 ?_
  refine V.run 10 rfl ?_
  exact V.rz rfl (Or.inl rfl) ⟨rfl, rfl⟩
theorem c_sweepsDone : Tot none kX0_sweepsDone [.ref 15] (wC B a v r) (rI (v 7) (wC B a v r)) := by
  refine eX0_sweepsDone ?_
  refine V.run 10 rfl ?_
  exact V.ri rfl ⟨rfl, rfl⟩
theorem c_cellsIn (hB : B ≤ 16) {b c : Nat} (hb : b < B) (hc : c < 4) (hk : a 10 b = nI c) : Tot none kX0_cellsIn [.ref 15, .int (nI b)] (wC B a v r) (rI (nI (cpb c)) (wC B a v r)) := by
  refine eX0_cellsIn ?_
  refine V.run 10 rfl ?_
  refine V.cv rfl (c_classOf hB hb) rfl rfl ?_
  rintro _ _ ⟨rfl, rfl⟩
  rw [hk]
  refine V.run 10 rfl ?_
  refine V.brT rfl rfl (nI_m1 (by omega)) ?_
  refine V.run 10 rfl ?_
  refine V.cs rfl (c_cellsPerBlock hc) rfl ?_
  rintro _ _ ⟨rfl, rfl⟩
  exact V.ri rfl ⟨rfl, rfl⟩
theorem c_cellsIn0 (hB : B ≤ 16) {b : Nat} (hb : b < B) (hk : a 10 b = -1) : Tot none kX0_cellsIn [.ref 15, .int (nI b)] (wC B a v r) (rI (nI 0) (wC B a v r)) := by
  refine eX0_cellsIn ?_
  refine V.run 10 rfl ?_
  refine V.cv rfl (c_classOf hB hb) rfl rfl ?_
  rintro _ _ ⟨rfl, rfl⟩
  rw [hk]
  refine V.run 10 rfl ?_
  refine V.brF rfl rfl (fun h => h rfl) ?_
  refine V.run 10 rfl ?_
  exact V.ri rfl ⟨rfl, rfl⟩
theorem c_cellOf (hB : B ≤ 16) {b c i : Nat} (hb : b < B) (hc : c < 4) (hk : a 10 b = nI c) : Tot none kX0_cellOf [.ref 15, .int (nI b), .int (nI i)] (wC B a v r) (rI (nI (b * 32 + i * cwd c)) (wC B a v r)) := by
  refine eX0_cellOf ?_
  refine V.run 10 rfl ?_
  refine V.cv rfl (c_classOf hB hb) rfl rfl ?_
  rintro _ _ ⟨rfl, rfl⟩
  rw [hk]
  refine V.run 10 rfl ?_
  refine V.brT rfl rfl (nI_m1 (by omega)) ?_
  refine V.run 10 rfl ?_
  refine V.cs rfl (c_cellWords hc) rfl ?_
  rintro _ _ ⟨rfl, rfl⟩
  refine V.run 10 rfl ?_
  rw [pk_mul, pk_mul, nI_add]
  exact V.ri rfl ⟨rfl, rfl⟩
end CS
end
section
/-! WALKS, purely: a list of addresses, each once, in the order in which they were come to -/
def setA (a : Nat → Nat → Int32) (q : Nat) (f : Nat → Int32) : Nat → Nat → Int32 := fun i => bif Nat.beq i q then f else a i
def ins (L : List Nat) (x : Nat) : List Nat := if x ∈ L then L else L ++ [x]
def insL (L ys : List Nat) : List Nat := ys.foldl ins L
theorem ins_mem {L : List Nat} {x y : Nat} : y ∈ ins L x ↔ y ∈ L ∨ y = x := by
  unfold ins
  split
  · constructor
    · exact Or.inl
    · rintro (h | rfl) <;> assumption
  · simp
theorem ins_nodup {L : List Nat} {x : Nat} (h : L.Nodup) : (ins L x).Nodup := by
  unfold ins
  split
  · exact h
  · rename_i hx
    refine List.nodup_append.mpr ⟨h, by simp, ?_⟩
    intro a ha b hb
    simp at hb
    subst hb
    rintro rfl
    exact hx ha
theorem ins_pre (L : List Nat) (x : Nat) : ∃ M, ins L x = L ++ M := by
  unfold ins
  split
  · exact ⟨[], by simp⟩
  · exact ⟨[x], rfl⟩
theorem ins_get {L : List Nat} {x i y : Nat} (h : L[i]? = some y) : (ins L x)[i]? = some y := by
  obtain ⟨M, hM⟩ := ins_pre L x
  rw [hM, List.getElem?_append_left (List.getElem?_eq_some_iff.mp h).1]
  exact h
theorem insL_pre (ys : List Nat) : ∀ L : List Nat, ∃ M, insL L ys = L ++ M := by
  induction ys with
  | nil => intro L; exact ⟨[], by simp [insL]⟩
  | cons y ys ih =>
    intro L
    obtain ⟨M1, h1⟩ := ins_pre L y
    obtain ⟨M2, h2⟩ := ih (ins L y)
    refine ⟨M1 ++ M2, ?_⟩
    show insL (ins L y) ys = _
    rw [h2, h1, List.append_assoc]
theorem insL_mem {ys : List Nat} : ∀ {L : List Nat} {y : Nat}, y ∈ insL L ys ↔ y ∈ L ∨ y ∈ ys := by
  induction ys with
  | nil => intro L y; simp [insL]
  | cons z ys ih =>
    intro L y
    show y ∈ insL (ins L z) ys ↔ _
    rw [ih, ins_mem, List.mem_cons, or_assoc]
theorem insL_nodup {ys : List Nat} : ∀ {L : List Nat}, L.Nodup → (insL L ys).Nodup := by
  induction ys with
  | nil => intro L h; exact h
  | cons z ys ih => intro L h; exact ih (L := ins L z) (ins_nodup h)
theorem ins_id {L : List Nat} {x : Nat} (h : x ∈ L) : ins L x = L := by simp [ins, h]
theorem insL_id {ys : List Nat} : ∀ {L : List Nat}, (∀ y ∈ ys, y ∈ L) → insL L ys = L := by
  induction ys with
  | nil => intro L _; rfl
  | cons z ys ih =>
    intro L h
    show insL (ins L z) ys = L
    rw [ins_id (h z List.mem_cons_self)]
    exact ih (fun y hy => h y (List.mem_cons_of_mem _ hy))
/-- a list of different numbers below M has at most M of them -/
theorem nodup_len : ∀ (M : Nat) (L : List Nat), L.Nodup → (∀ x ∈ L, x < M) → L.length ≤ M
  | 0, [], _, _ => Nat.le_refl _
  | 0, x :: _, _, h => absurd (h x List.mem_cons_self) (Nat.not_lt_zero _)
  | M + 1, L, hn, h => by
    by_cases hM : M ∈ L
    · have h1 := nodup_len M (L.erase M) (hn.erase M) (fun x hx => by
        have h2 := (List.Nodup.mem_erase_iff hn).mp hx
        have h3 := h x h2.2
        omega)
      rw [List.length_erase_of_mem hM] at h1
      omega
    · have h1 := nodup_len M L hn (fun x hx => by
        have h3 := h x hx
        have : x ≠ M := fun e => hM (e ▸ hx)
        omega)
      omega
theorem even_len {M : Nat} {L : List Nat} (hn : L.Nodup) (h : ∀ x ∈ L, x < 2 * M ∧ x % 2 = 0) : L.length ≤ M := by
  have h1 := nodup_len M (L.map (fun x => x / 2)) (by
    rw [List.nodup_iff_pairwise_ne, List.pairwise_map]
    refine List.Pairwise.imp_of_mem ?_ (List.nodup_iff_pairwise_ne.mp hn)
    intro a b ha hb hab e
    have h2 := h a ha
    have h3 := h b hb
    omega) (fun x hx => by
      obtain ⟨y, hy, rfl⟩ := List.mem_map.mp hx
      have := h y hy
      omega)
  rwa [List.length_map] at h1
/-- what fields of an object refer to (not weakly), by their numbers -/
def tgs (fd kd vl : Nat → Int32) (x : Nat) : List Nat := (List.range (fd x).toNatClampNeg).filterMap (fun j => if kd (x + 1 + j) = 1 then some (vl (x + 1 + j)).toNatClampNeg else none)
/-- going through a list from its place i on, with what is come to put behind -/
def fol (T : Nat → List Nat) : Nat → Nat → List Nat → List Nat
  | 0, _, L => L
  | n + 1, i, L => if i < L.length then fol T n (i + 1) (insL L (T (L.getD i 0))) else L
/-- arrays that hold a walk -/
def Wk (N : Nat) (L : List Nat) (f g : Nat → Int32) (n : Int32) : Prop := n = nI L.length ∧ (∀ i x, L[i]? = some x → f i = nI x ∧ g x = nI i) ∧ (∀ x, x < N → x ∉ L → g x = -1) ∧ (∀ x ∈ L, x < N)
theorem upd_s {f : Nat → Int32} {k : Nat} {x : Int32} : upd f k x k = x := by simp [upd]
theorem upd_n {f : Nat → Int32} {k j : Nat} {x : Int32} (h : j ≠ k) : upd f k x j = f j := by simp [upd, h]
theorem Wk.add {N : Nat} {L : List Nat} {f g : Nat → Int32} {n : Int32} {x : Nat} (h : Wk N L f g n) (hx : x < N) (hn : x ∉ L) : Wk N (ins L x) (upd f L.length (nI x)) (upd g x (nI L.length)) (n + nI 1) := by
  obtain ⟨h1, h2, h3, h4⟩ := h
  have e : ins L x = L ++ [x] := by simp [ins, hn]
  rw [e]
  refine ⟨by rw [h1, nI_add]; simp, fun i y hy => ?_, fun y hy hm => ?_, fun y hy => ?_⟩
  · by_cases hi : i < L.length
    · rw [List.getElem?_append_left hi] at hy
      have hyx : y ≠ x := fun q => hn (q ▸ List.mem_of_getElem? hy)
      rw [upd_n (by omega), upd_n hyx]
      exact h2 i y hy
    · rw [List.getElem?_append_right (by omega)] at hy
      have hz := (List.getElem?_eq_some_iff.mp hy).1
      simp at hz
      have : i = L.length := by omega
      subst this
      simp at hy
      subst hy
      exact ⟨upd_s, upd_s⟩
  · simp at hm
    rw [upd_n hm.2]
    exact h3 y hy hm.1
  · rcases List.mem_append.mp hy with h | h
    · exact h4 y h
    · simp at h
      rw [h]; exact hx
theorem Wk.not {N : Nat} {L : List Nat} {f g : Nat → Int32} {n : Int32} {x : Nat} (h : Wk N L f g n) (hl : L.length < 2 ^ 31) (hm : x ∈ L) : ¬ g x = -1 := by
  obtain ⟨i, hi⟩ := List.getElem?_of_mem hm
  rw [(h.2.1 i x hi).2]
  exact nI_m1 (Nat.lt_trans (List.getElem?_eq_some_iff.mp hi).1 hl)
theorem Wk.iff {N : Nat} {L : List Nat} {f g : Nat → Int32} {n : Int32} {x : Nat} (h : Wk N L f g n) (hl : L.length < 2 ^ 31) (hx : x < N) : g x = -1 ↔ x ∉ L :=
  ⟨fun e m => h.not hl m e, fun m => h.2.2.1 x hx m⟩
theorem Wk.nil {N : Nat} {f g : Nat → Int32} (h : ∀ x, x < N → g x = -1) : Wk N [] f g (nI 0) :=
  ⟨rfl, fun i x h => by simp at h, fun x hx _ => h x hx, fun x h => by simp at h⟩
/-- the objects that matter: each lies in the heap, at an even address; its fields lie there too; what they refer to matters as well -/
def hpOK (N : Nat) (fd kd vl : Nat → Int32) (G : Nat → Prop) : Prop := ∀ x, G x → x < N ∧ x % 2 = 0 ∧ ∃ m, m ≤ 15 ∧ fd x = nI m ∧ x + 1 + m ≤ N ∧ ∀ j, j < m → (kd (x + 1 + j) = 0 ∨ ((kd (x + 1 + j) = 1 ∨ kd (x + 1 + j) = 2) ∧ ∃ y, vl (x + 1 + j) = nI y ∧ G y))
theorem tgs_G {N : Nat} {fd kd vl : Nat → Int32} {G : Nat → Prop} (h : hpOK N fd kd vl G) (hN : N < 2 ^ 31) {x y : Nat} (hx : G x) (hy : y ∈ tgs fd kd vl x) : G y := by
  obtain ⟨-, -, m, hm, hf, -, hj⟩ := h x hx
  unfold tgs at hy
  rw [hf, nI_clamp (by omega)] at hy
  obtain ⟨j, hjm, he⟩ := List.mem_filterMap.mp hy
  rw [List.mem_range] at hjm
  split at he
  · rename_i h1
    rcases hj j hjm with h0 | ⟨-, z, hz, hg⟩
    · rw [h0] at h1; exact absurd h1 (by decide)
    · rw [hz, nI_clamp (by have := (h z hg).1; omega)] at he
      cases he
      exact hg
  · cases he
end
section
/-! THE CLASS'S WALKS: d = false: marks, d = true: walk -/
def wo (d : Bool) : Nat := bif d then 10 else 7
def oO (d : Bool) : Nat := bif d then 7 else 5
def oR (d : Bool) : Nat := bif d then 8 else 6
def vS (d : Bool) : Nat := bif d then 4 else 2
def vL (d : Bool) : Nat := bif d then 5 else 3
theorem lt_eq {x : Int32} {n m : Nat} (e : x = nI n) (h : n < m) (hm : m < 2 ^ 31) : x < nI m := by rw [e]; exact nI_lt h hm
section CW
variable {B : Nat} {a : Nat → Nat → Int32} {v : Nat → Int32} {r : xW}
theorem c_wsize (d : Bool) : Tot none kX3_size [.ref (wo d)] (wC B a v r) (rI (v (vS d)) (wC B a v r)) := by
  cases d
  · refine eX3_size ?_
    refine V.run 10 rfl ?_
    exact V.ri rfl ⟨rfl, rfl⟩
  · refine eX3_size ?_
    refine V.run 10 rfl ?_
    exact V.ri rfl ⟨rfl, rfl⟩
theorem c_wget (d : Bool) (hB : B ≤ 16) {i n : Nat} (hn : v (vS d) = nI n) (hi : i < n) (hl : n ≤ 16 * B) : Tot none kX3_get [.ref (wo d), .int (nI i)] (wC B a v r) (rI (a (oO d) i) (wC B a v r)) := by
  cases d
  all_goals
    refine eX3_get ?_
    refine V.run 10 rfl ?_
    refine V.brF rfl rfl (nI_pos (by omega)) ?_
    refine V.run 10 rfl ?_
    refine V.brF rfl rfl (fun h => nI_ge hi (by omega) (hn ▸ h)) ?_
    refine V.run 10 rfl ?_
    refine V.brF rfl rfl (nI_ge (show i < 16 * B by omega) (by omega)) ?_
    refine V.run 10 rfl ?_
    refine V.iald rfl rfl rfl (show i < 16 * B by omega) (by omega) ?_
    refine V.run 10 rfl ?_
    exact V.ri rfl ⟨rfl, rfl⟩
theorem c_rankOf (d : Bool) (hB : B ≤ 16) {x : Nat} (hx : x < 32 * B) : Tot none kX3_rankOf [.ref (wo d), .int (nI x)] (wC B a v r) (rI (a (oR d) x) (wC B a v r)) := by
  cases d
  all_goals
    refine eX3_rankOf ?_
    refine V.run 10 rfl ?_
    refine V.brF rfl rfl (nI_pos (by omega)) ?_
    refine V.run 10 rfl ?_
    refine V.brF rfl rfl (nI_ge hx (by omega)) ?_
    refine V.run 10 rfl ?_
    refine V.iald rfl rfl rfl hx (by omega) ?_
    refine V.run 10 rfl ?_
    exact V.ri rfl ⟨rfl, rfl⟩
theorem c_whas (d : Bool) (hB : B ≤ 16) {x : Nat} (hx : x < 32 * B) : Tot none kX3_has [.ref (wo d), .int (nI x)] (wC B a v r) (rI (if a (oR d) x = -1 then nI 0 else nI 1) (wC B a v r)) := by
  refine eX3_has ?_
  cases d
  all_goals
    refine V.run 10 rfl ?_
    refine V.cv rfl (c_rankOf _ hB hx) rfl rfl ?_
    rintro _ _ ⟨rfl, rfl⟩
    refine V.run 10 rfl ?_
    refine V.br rfl rfl (fun h => ?_) (fun h => ?_)
    · refine V.run 10 rfl ?_
      exact V.rz rfl (Or.inl rfl) ⟨by rw [if_pos h], rfl⟩
    · refine V.run 10 rfl ?_
      exact V.rz rfl (Or.inr rfl) ⟨by rw [if_neg h], rfl⟩
theorem c_come0 (d : Bool) : Tot none kX3_come [.ref (wo d), .int (-1)] (wC B a v r) (rN (wC B a v r)) := by
  cases d
  all_goals
    refine eX3_come ?_
    refine V.run 10 rfl ?_
    refine V.brT rfl rfl m1_lt0 ?_
    exact V.rv rfl ⟨rfl, rfl⟩
theorem c_come (d : Bool) (hB : B ≤ 16) {x : Nat} {L : List Nat} (hx : x < 32 * B) (hW : Wk (32 * B) L (a (oO d)) (a (oR d)) (v (vS d))) (hl : L.length ≤ 16 * B) (hg : x ∈ L ∨ L.length < 16 * B) : Tot none kX3_come [.ref (wo d), .int (nI x)] (wC B a v r) (fun o w' => o = none ∧ ∃ f g n, w' = wC B (setA (setA a (oO d) f) (oR d) g) (uV v (vS d) n) r ∧ Wk (32 * B) (ins L x) f g n) := by
  cases d
  all_goals
    refine eX3_come ?_
    refine V.run 10 rfl ?_
    refine V.brF rfl rfl (nI_pos (by omega)) ?_
    refine V.run 10 rfl ?_
    refine V.brF rfl rfl (nI_ge hx (by omega)) ?_
    refine V.run 10 rfl ?_
    refine V.br rfl rfl (fun h => ?_) (fun h => ?_)
    · have hlt : L.length < 16 * B := by
        rcases Nat.lt_or_ge L.length (16 * B) with q | q
        · exact q
        · exact absurd (hW.1 ▸ h) (nI_nlt q (by omega))
      refine V.run 10 rfl ?_
      refine V.iald rfl rfl rfl hx (by omega) ?_
      refine V.run 10 rfl ?_
      refine V.br rfl rfl (fun h2 => ?_) (fun h2 => ?_)
      · have hm : x ∈ L := by
          by_cases q : x ∈ L
          · exact q
          · exact absurd (hW.2.2.1 x hx q) h2
        exact V.rv rfl ⟨rfl, _, _, _, rfl, by rw [ins_id hm]; exact hW⟩
      · have hm : x ∉ L := fun q => h2 (hW.not (by omega) q)
        have hs := hW.1
        refine V.run 10 rfl ?_
        refine V.iast rfl rfl rfl hx (by omega) rfl ?_
        refine V.run 10 rfl ?_
        refine V.iast (j := L.length) rfl rfl hs hlt (by omega) rfl ?_
        refine V.run 10 rfl ?_
        refine V.puti rfl rfl rfl ?_
        have hA := hW.add hx hm
        refine V.rv rfl ⟨rfl, _, _, _, rfl, ?_⟩
        rw [← hs] at hA
        exact hA
    · have hm : x ∈ L := by
        rcases hg with q | q
        · exact q
        · exact absurd (lt_eq hW.1 q (by omega)) h
      exact V.rv rfl ⟨rfl, _, _, _, rfl, by rw [ins_id hm]; exact hW⟩
theorem c_clear (d : Bool) (hB : B ≤ 16) : Tot none kX3_clear [.ref (wo d)] (wC B a v r) (fun o w' => o = none ∧ ∃ g, w' = wC B (setA a (oR d) g) (uV (uV v (vS d) (nI 0)) (vL d) (nI 0)) r ∧ ∀ x, x < 32 * B → g x = -1) := by
  refine eX3_clear ?_
  cases d
  · have loop : ∀ (m i : Nat) (g : Nat → Int32), i + m = 32 * B → (∀ x, x < i → g x = -1) → V none 47 (fun o w' => o = none ∧ ∃ g, w' = wC B (setA a 6 g) (uV (uV v 2 (nI 0)) 3 (nI 0)) r ∧ ∀ x, x < 32 * B → g x = -1) (0, 0) 8 [(0, .ref 7), (1, .int (nI i))] [.int (nI (32 * B)), .int (nI i)] (wC B (setA a 6 g) v r) := by
      intro m
      induction m with
      | zero =>
        intro i g hi hg
        refine V.brT rfl rfl (nI_le (by omega) (by omega)) ?_
        refine V.run 10 rfl ?_
        refine V.puti (w' := wC B (setA a 6 g) (uV v 2 (nI 0)) r) rfl rfl rfl ?_
        refine V.run 10 rfl ?_
        refine V.puti (w' := wC B (setA a 6 g) (uV (uV v 2 (nI 0)) 3 (nI 0)) r) rfl rfl rfl ?_
        exact V.rv rfl ⟨rfl, g, rfl, fun x hx => hg x (by omega)⟩
      | succ m ih =>
        intro i g hi hg
        refine V.brF rfl rfl (nI_ge (show i < 32 * B by omega) (by omega)) ?_
        refine V.run 10 rfl ?_
        refine V.iast (w' := wC B (setA a 6 (upd g i (-1))) v r) rfl rfl rfl (show i < 32 * B by omega) (by omega) rfl ?_
        refine V.run 10 rfl ?_
        rw [nI_add]
        refine ih (i + 1) _ (by omega) (fun x hx => ?_)
        by_cases q : x = i
        · subst q; exact upd_s
        · rw [upd_n q]; exact hg x (by omega)
    refine V.run 10 rfl ?_
    exact loop (32 * B) 0 (a 6) (by omega) (fun x hx => absurd hx (Nat.not_lt_zero x))
  · have loop : ∀ (m i : Nat) (g : Nat → Int32), i + m = 32 * B → (∀ x, x < i → g x = -1) → V none 47 (fun o w' => o = none ∧ ∃ g, w' = wC B (setA a 8 g) (uV (uV v 4 (nI 0)) 5 (nI 0)) r ∧ ∀ x, x < 32 * B → g x = -1) (0, 0) 8 [(0, .ref 10), (1, .int (nI i))] [.int (nI (32 * B)), .int (nI i)] (wC B (setA a 8 g) v r) := by
      intro m
      induction m with
      | zero =>
        intro i g hi hg
        refine V.brT rfl rfl (nI_le (by omega) (by omega)) ?_
        refine V.run 10 rfl ?_
        refine V.puti (w' := wC B (setA a 8 g) (uV v 4 (nI 0)) r) rfl rfl rfl ?_
        refine V.run 10 rfl ?_
        refine V.puti (w' := wC B (setA a 8 g) (uV (uV v 4 (nI 0)) 5 (nI 0)) r) rfl rfl rfl ?_
        exact V.rv rfl ⟨rfl, g, rfl, fun x hx => hg x (by omega)⟩
      | succ m ih =>
        intro i g hi hg
        refine V.brF rfl rfl (nI_ge (show i < 32 * B by omega) (by omega)) ?_
        refine V.run 10 rfl ?_
        refine V.iast (w' := wC B (setA a 8 (upd g i (-1))) v r) rfl rfl rfl (show i < 32 * B by omega) (by omega) rfl ?_
        refine V.run 10 rfl ?_
        rw [nI_add]
        refine ih (i + 1) _ (by omega) (fun x hx => ?_)
        by_cases q : x = i
        · subst q; exact upd_s
        · rw [upd_n q]; exact hg x (by omega)
    refine V.run 10 rfl ?_
    exact loop (32 * B) 0 (a 8) (by omega) (fun x hx => absurd hx (Nat.not_lt_zero x))
end CW
end
section
section VLT
variable {X : Option (Nat × (Nat → Int32))} {k : Nat} {Q : Option Value → xW → Prop} {n : Nat × Nat} {pc : Nat} {ls ls' : xL} {st : List Value} {w : xW}
/-- the first m locals alone -/
theorem V.lt (m : Nat) (h : ls.take m = ls') (kk : V X k Q n pc ls' st w) : V X k Q n pc ls st w := V.locs (fun q hq => by rw [← h] at hq; exact List.mem_of_mem_take hq) kk
end VLT
section CE
variable {B : Nat} {a : Nat → Nat → Int32} {v : Nat → Int32} {r : xW}
theorem c_nameAtE (hB : B ≤ 16) {x : Nat} (hx : x < 32 * B) {y : Int32} (hy : a 0 x = y) : Tot none kX2_nameAt [.ref 1, .int (nI x)] (wC B a v r) (rI y (wC B a v r)) := hy ▸ c_nameAt hB hx
theorem c_fieldsOfE (hB : B ≤ 16) {x : Nat} (hx : x < 32 * B) {y : Int32} (hy : a 1 x = y) : Tot none kX2_fieldsOf [.ref 1, .int (nI x)] (wC B a v r) (rI y (wC B a v r)) := hy ▸ c_fieldsOf hB hx
theorem c_kindOfE (hB : B ≤ 16) {x f : Nat} (hx : x + 1 + f < 32 * B) {y : Int32} (hy : a 3 (x + 1 + f) = y) : Tot none kX2_kindOf [.ref 1, .int (nI x), .int (nI f)] (wC B a v r) (rI y (wC B a v r)) := hy ▸ c_kindOf hB hx
theorem c_valueOfE (hB : B ≤ 16) {x f : Nat} (hx : x + 1 + f < 32 * B) {y : Int32} (hy : a 4 (x + 1 + f) = y) : Tot none kX2_valueOf [.ref 1, .int (nI x), .int (nI f)] (wC B a v r) (rI y (wC B a v r)) := hy ▸ c_valueOf hB hx
theorem c_wgetE (d : Bool) (hB : B ≤ 16) {i n : Nat} (hn : v (vS d) = nI n) (hi : i < n) (hl : n ≤ 16 * B) {y : Int32} (hy : a (oO d) i = y) : Tot none kX3_get [.ref (wo d), .int (nI i)] (wC B a v r) (rI y (wC B a v r)) := hy ▸ c_wget d hB hn hi hl
theorem c_whas1 (d : Bool) (hB : B ≤ 16) {x : Nat} (hx : x < 32 * B) (h : ¬ a (oR d) x = -1) : Tot none kX3_has [.ref (wo d), .int (nI x)] (wC B a v r) (rI (nI 1) (wC B a v r)) := by
  have := c_whas (a := a) (v := v) (r := r) d hB hx
  rwa [if_neg h] at this
theorem c_whas0 (d : Bool) (hB : B ≤ 16) {x : Nat} (hx : x < 32 * B) (h : a (oR d) x = -1) : Tot none kX3_has [.ref (wo d), .int (nI x)] (wC B a v r) (rI (nI 0) (wC B a v r)) := by
  have := c_whas (a := a) (v := v) (r := r) d hB hx
  rwa [if_pos h] at this
/-- the part of an object's targets from its field j on, c of them -/
def tgc (kd vl : Nat → Int32) (x j c : Nat) : List Nat := (List.range' j c).filterMap (fun j => if kd (x + 1 + j) = 1 then some (vl (x + 1 + j)).toNatClampNeg else none)
theorem tgs_tgc {fd kd vl : Nat → Int32} {x m : Nat} (h : fd x = nI m) (hm : m ≤ 15) : tgs fd kd vl x = tgc kd vl x 0 m := by
  unfold tgs tgc
  rw [h, nI_clamp (by omega), List.range_eq_range']
theorem tgc_1 {kd vl : Nat → Int32} {x j c y : Nat} (hk : kd (x + 1 + j) = 1) (hv : vl (x + 1 + j) = nI y) (hy : y < 2 ^ 31) : tgc kd vl x j (c + 1) = y :: tgc kd vl x (j + 1) c := by
  unfold tgc
  rw [List.range'_succ, List.filterMap_cons, if_pos hk, hv, nI_clamp hy]
theorem tgc_0 {kd vl : Nat → Int32} {x j c : Nat} (hk : ¬ kd (x + 1 + j) = 1) : tgc kd vl x j (c + 1) = tgc kd vl x (j + 1) c := by
  unfold tgc
  rw [List.range'_succ, List.filterMap_cons, if_neg hk]
/-- a walk whose members matter, each once -/
def Wg (B : Nat) (G : Nat → Prop) (L : List Nat) : Prop := L.Nodup ∧ ∀ y ∈ L, G y
theorem Wg.len {B : Nat} {fd kd vl : Nat → Int32} {G : Nat → Prop} (hp : hpOK (32 * B) fd kd vl G) {L : List Nat} (h : Wg B G L) : L.length ≤ 16 * B :=
  even_len h.1 (fun x hx => by have := hp x (h.2 x hx); omega)
theorem Wg.add1 {B : Nat} {G : Nat → Prop} {L : List Nat} {x : Nat} (h : Wg B G L) (hx : G x) : Wg B G (ins L x) :=
  ⟨ins_nodup h.1, fun y hy => by rcases ins_mem.mp hy with q | rfl; exact h.2 y q; exact hx⟩
theorem Wg.guard {B : Nat} {fd kd vl : Nat → Int32} {G : Nat → Prop} (hp : hpOK (32 * B) fd kd vl G) {L : List Nat} (h : Wg B G L) {x : Nat} (hx : G x) : x ∈ L ∨ L.length < 16 * B := by
  by_cases q : x ∈ L
  · exact Or.inl q
  · right
    have h1 := (h.add1 hx).len hp
    simp only [ins, q, if_false, List.length_append, List.length_cons, List.length_nil] at h1
    omega
theorem c_spread_in (d : Bool) (hB : B ≤ 16) {G : Nat → Prop} (hp : hpOK (32 * B) (a 1) (a 3) (a 4) G) {x m i : Nat} (hx : G x) (hm : a 1 x = nI m) (hm15 : m ≤ 15) {Q : Option Value → xW → Prop} : ∀ (c j : Nat) (L : List Nat) (f g : Nat → Int32) (n : Int32), j + c = m → Wk (32 * B) L f g n → Wg B G L →
    (∀ L' f' g' n', L' = insL L (tgc (a 3) (a 4) x j c) → Wk (32 * B) L' f' g' n' → Wg B G L' → V none 49 Q (0, 0) 70 [(0, .ref (wo d)), (1, .ref 1), (2, .int (nI i)), (3, .int (nI x)), (4, .int (nI m))] [] (wC B (setA (setA a (oO d) f') (oR d) g') (uV v (vS d) n') r)) →
    V none 49 Q (0, 0) 36 [(0, .ref (wo d)), (1, .ref 1), (2, .int (nI i)), (3, .int (nI x)), (4, .int (nI j))] [.int (nI x), .ref 1, .int (nI j)] (wC B (setA (setA a (oO d) f) (oR d) g) (uV v (vS d) n) r) := by
  obtain ⟨hxN, -, m', hm', hf', hmN, hj'⟩ := hp x hx
  have e : m' = m := nI_inj (by omega) (by omega) (hf'.symm.trans hm)
  subst e
  intro c
  induction c with
  | zero =>
    intro j L f g n hj hW hG kk
    have kk := kk L f g n rfl hW hG
    have e : j = m' := by omega
    subst e
    cases d
    all_goals
      refine V.cv rfl (c_fieldsOfE hB hxN hm) rfl rfl ?_
      rintro _ _ ⟨rfl, rfl⟩
      refine V.brT rfl rfl (nI_le (Nat.le_refl j) (by omega)) ?_
      exact kk
  | succ c ih =>
    intro j L f g n hj hW hG kk
    have hjN : x + 1 + j < 32 * B := by omega
    have hjm := hj' j (by omega)
    by_cases h1 : a 3 (x + 1 + j) = 1
    · obtain ⟨y, hy, hyG⟩ : ∃ y, a 4 (x + 1 + j) = nI y ∧ G y := by
        rcases hjm with h0 | ⟨-, h⟩
        · rw [h0] at h1; exact absurd h1 (by decide)
        · exact h
      have hyN := (hp y hyG).1
      rw [tgc_1 h1 hy (by omega)] at kk
      cases d
      all_goals
        refine V.cv rfl (c_fieldsOfE hB hxN hm) rfl rfl ?_
        rintro _ _ ⟨rfl, rfl⟩
        refine V.brF rfl rfl (nI_ge (show j < m' by omega) (by omega)) ?_
        refine V.run 20 rfl ?_
        refine V.cv rfl (c_kindOfE hB hjN h1) rfl rfl ?_
        rintro _ _ ⟨rfl, rfl⟩
        refine V.run 20 rfl ?_
        refine V.brF rfl rfl (fun h => h rfl) ?_
        refine V.run 20 rfl ?_
        refine V.cv rfl (c_valueOfE hB hjN hy) rfl rfl ?_
        rintro _ _ ⟨rfl, rfl⟩
        refine V.cv rfl (c_come _ hB hyN hW (hG.len hp) (hG.guard hp hyG)) rfl rfl ?_
        rintro _ _ ⟨rfl, f', g', n', rfl, hW'⟩
        refine V.run 20 rfl ?_
        rw [nI_add]
        exact ih (j + 1) _ f' g' n' (by omega) hW' (hG.add1 hyG) kk
    · rw [tgc_0 h1] at kk
      cases d
      all_goals
        refine V.cv rfl (c_fieldsOfE hB hxN hm) rfl rfl ?_
        rintro _ _ ⟨rfl, rfl⟩
        refine V.brF rfl rfl (nI_ge (show j < m' by omega) (by omega)) ?_
        refine V.run 20 rfl ?_
        refine V.cv rfl (c_kindOf hB hjN) rfl rfl ?_
        rintro _ _ ⟨rfl, rfl⟩
        refine V.run 20 rfl ?_
        refine V.brT rfl rfl h1 ?_
        refine V.run 20 rfl ?_
        rw [nI_add]
        exact ih (j + 1) L f g n (by omega) hW hG kk
theorem c_spread (d : Bool) (hB : B ≤ 16) {G : Nat → Prop} (hp : hpOK (32 * B) (a 1) (a 3) (a 4) G) {L : List Nat} {i : Nat} (hW : Wk (32 * B) L (a (oO d)) (a (oR d)) (v (vS d))) (hG : Wg B G L) (hi : v (vL d) = nI i) (hil : i ≤ L.length) :
    Tot none kX3_spread [.ref (wo d), .ref 1] (wC B a v r) (fun o w' => o = none ∧ ∃ f g n, w' = wC B (setA (setA a (oO d) f) (oR d) g) (uV (uV v (vS d) n) (vL d) n) r ∧ Wk (32 * B) (fol (tgs (a 1) (a 3) (a 4)) (16 * B + 1 - i) i L) f g n ∧ Wg B G (fol (tgs (a 1) (a 3) (a 4)) (16 * B + 1 - i) i L)) := by
  have loop : ∀ (m i : Nat) (L R : List Nat) (f g : Nat → Int32) (n : Int32), i + m = 16 * B + 1 → i ≤ L.length → Wk (32 * B) L f g n → Wg B G L → R = fol (tgs (a 1) (a 3) (a 4)) m i L → ∀ xi : Int32, xi = nI i →
      V none 49 (fun o w' => o = none ∧ ∃ f g n, w' = wC B (setA (setA a (oO d) f) (oR d) g) (uV (uV v (vS d) n) (vL d) n) r ∧ Wk (32 * B) R f g n ∧ Wg B G R) (0, 0) 10 [(0, .ref (wo d)), (1, .ref 1), (2, .int xi)] [.int n, .int xi] (wC B (setA (setA a (oO d) f) (oR d) g) (uV v (vS d) n) r) := by
    intro m
    induction m with
    | zero =>
      intro i L R f g n him hiL hW1 hG1 hR _ hxi
      subst hxi
      have := hG1.len hp
      omega
    | succ m ih =>
      intro i L R f g n him hiL hW1 hG1 hR _ hxi
      subst hxi
      have hlen := hG1.len hp
      have hn := hW1.1
      subst hn
      by_cases hlt : i < L.length
      · obtain ⟨x, hx⟩ : ∃ x, L[i]? = some x := ⟨_, List.getElem?_eq_getElem hlt⟩
        have hfx := (hW1.2.1 i x hx).1
        have hxG := hG1.2 x (List.mem_of_getElem? hx)
        obtain ⟨hxN, -, q, hq15, hfq, -, -⟩ := hp x hxG
        have hR' : R = fol (tgs (a 1) (a 3) (a 4)) m (i + 1) (insL L (tgc (a 3) (a 4) x 0 q)) := by
          rw [hR, fol, if_pos hlt, List.getD_eq_getElem?_getD, hx, ← tgs_tgc hfq hq15]
          rfl
        cases d
        all_goals
          refine V.brF rfl rfl (nI_ge hlt (by omega)) ?_
          refine V.run 20 rfl ?_
          refine V.brF rfl rfl (nI_ge (show i < 16 * B by omega) (by omega)) ?_
          refine V.run 20 rfl ?_
          refine V.ialE rfl rfl rfl (show i < 16 * B by omega) (by omega) hfx ?_
          refine V.run 20 rfl ?_
          refine c_spread_in _ hB hp hxG hfq hq15 q 0 L f g _ (by omega) hW1 hG1 (fun L' f' g' n' hL' hW' hG' => ?_)
          refine V.run 20 rfl ?_
          rw [nI_add]
          refine V.lt 3 rfl ?_
          refine ih (i + 1) L' R f' g' n' (by omega) ?_ hW' hG' (by rw [hL']; exact hR') _ rfl
          obtain ⟨M, hM⟩ := insL_pre (tgc (a 3) (a 4) x 0 q) L
          rw [hL', hM, List.length_append]
          omega
      · have hR' : R = L := by rw [hR, fol, if_neg hlt]
        subst hR'
        cases d
        all_goals
          refine V.brT rfl rfl (nI_le (by omega) (by omega)) ?_
          refine V.run 20 rfl ?_
          refine V.puti rfl rfl rfl ?_
          exact V.rv rfl ⟨rfl, f, g, _, rfl, hW1, hG1⟩
  refine eX3_spread ?_
  have h := loop (16 * B + 1 - i) i L _ (a (oO d)) (a (oR d)) (v (vS d)) (by have := hG.len hp; omega) hil hW hG rfl _ hi
  cases d
  all_goals
    refine V.run 20 rfl ?_
    exact h
end CE
end
section
/-- an array that holds a list of addresses -/
def Ql (L : List Nat) (f : Nat → Int32) (n : Int32) : Prop := n = nI L.length ∧ ∀ i x, L[i]? = some x → f i = nI x
/-- what roots refer to: from root j on, c of them -/
def rts (rt : Nat → Int32) (j c : Nat) : List Nat := (List.range' j c).filterMap (fun j => if rt j = -1 then none else some (rt j).toNatClampNeg)
theorem rts_0 {rt : Nat → Int32} {j c : Nat} (h : rt j = -1) : rts rt j (c + 1) = rts rt (j + 1) c := by
  unfold rts
  rw [List.range'_succ, List.filterMap_cons, if_pos h]
theorem rts_1 {rt : Nat → Int32} {j c x : Nat} (h : rt j = nI x) (hx : x < 2 ^ 31) : rts rt j (c + 1) = x :: rts rt (j + 1) c := by
  unfold rts
  rw [List.range'_succ, List.filterMap_cons, if_neg (by rw [h]; exact nI_m1 hx), h, nI_clamp hx]
/-- roots refer to none, or to what matters -/
def rtOK (rt : Nat → Int32) (G : Nat → Prop) : Prop := ∀ i, i < 16 → rt i = -1 ∨ ∃ x, rt i = nI x ∧ G x
theorem insL_nil (L : List Nat) : insL L [] = L := rfl
theorem insL_cons (L ys : List Nat) (y : Nat) : insL L (y :: ys) = insL (ins L y) ys := rfl
section CH
variable {B : Nat} {a : Nat → Nat → Int32} {v : Nat → Int32} {r : xW}
theorem c_lsize : Tot none kX1_size [.ref 13] (wC B a v r) (rI (v 6) (wC B a v r)) := by
  refine eX1_size ?_
  refine V.run 10 rfl ?_
  exact V.ri rfl ⟨rfl, rfl⟩
theorem c_lsizeE {y : Int32} (hy : v 6 = y) : Tot none kX1_size [.ref 13] (wC B a v r) (rI y (wC B a v r)) := hy ▸ c_lsize
theorem c_lgetE (hB : B ≤ 16) {i n : Nat} (hn : v 6 = nI n) (hi : i < n) (hl : n ≤ 16 * B) {y : Int32} (hy : a 9 i = y) : Tot none kX1_get [.ref 13, .int (nI i)] (wC B a v r) (rI y (wC B a v r)) := by
  refine eX1_get ?_
  refine V.run 10 rfl ?_
  refine V.brF rfl rfl (nI_pos (by omega)) ?_
  refine V.run 10 rfl ?_
  refine V.brF rfl rfl (fun h => nI_ge hi (by omega) (hn ▸ h)) ?_
  refine V.run 10 rfl ?_
  refine V.brF rfl rfl (nI_ge (show i < 16 * B by omega) (by omega)) ?_
  refine V.run 10 rfl ?_
  refine V.ialE rfl rfl rfl (show i < 16 * B by omega) (by omega) hy ?_
  refine V.run 10 rfl ?_
  exact V.ri rfl ⟨rfl, rfl⟩
/-- the world behind walking: the walk's arrays and number are others -/
abbrev wWk (d : Bool) (B : Nat) (a : Nat → Nat → Int32) (v : Nat → Int32) (r : xW) (f g : Nat → Int32) (n : Int32) : xW := wC B (setA (setA a (oO d) f) (oR d) g) (uV v (vS d) n) r
theorem c_held_q (d : Bool) (hB : B ≤ 16) {G : Nat → Prop} (hp : hpOK (32 * B) (a 1) (a 3) (a 4) G) {Qs : List Nat} (hq : Ql Qs (a 9) (v 6)) (hqG : Wg B G Qs) {Q : Option Value → xW → Prop} : ∀ (c j : Nat) (L : List Nat) (f g : Nat → Int32) (n : Int32), j + c = Qs.length → Wk (32 * B) L f g n → Wg B G L →
    (∀ f' g' n', Wk (32 * B) (insL L (Qs.drop j)) f' g' n' → Wg B G (insL L (Qs.drop j)) → Q none (wWk d B a v r f' g' n')) →
    V none 79 Q (0, 0) 31 [(0, .ref 0), (1, .ref (wo d)), (2, .int (nI j))] [.ref 13, .int (nI j)] (wWk d B a v r f g n) := by
  have hql := hqG.len hp
  intro c
  induction c with
  | zero =>
    intro j L f g n hj hW hG kk
    have e : Qs.drop j = [] := List.drop_eq_nil_of_le (by omega)
    rw [e] at kk
    have hs := hq.1
    cases d
    all_goals
      refine V.cv rfl (c_lsizeE hs) rfl rfl ?_
      rintro _ _ ⟨rfl, rfl⟩
      refine V.brT rfl rfl (nI_le (by omega) (by omega)) ?_
      exact V.rv rfl (kk f g n hW hG)
  | succ c ih =>
    intro j L f g n hj hW hG kk
    obtain ⟨x, hx⟩ : ∃ x, Qs[j]? = some x := ⟨_, List.getElem?_eq_getElem (by omega)⟩
    have e : Qs.drop j = x :: Qs.drop (j + 1) := by
      obtain ⟨h1, h2⟩ := List.getElem?_eq_some_iff.mp hx
      rw [← h2]
      exact List.drop_eq_getElem_cons h1
    rw [e, insL_cons] at kk
    have hs := hq.1
    have hfx := hq.2 j x hx
    have hxG := hqG.2 x (List.mem_of_getElem? hx)
    have hxN := (hp x hxG).1
    cases d
    all_goals
      refine V.cv rfl (c_lsizeE hs) rfl rfl ?_
      rintro _ _ ⟨rfl, rfl⟩
      refine V.brF rfl rfl (nI_ge (show j < Qs.length by omega) (by omega)) ?_
      refine V.run 20 rfl ?_
      refine V.cv rfl (c_lgetE hB (by exact hs) (show j < Qs.length by omega) (by omega) (by exact hfx)) rfl rfl ?_
      rintro _ _ ⟨rfl, rfl⟩
      refine V.cv rfl (c_come _ hB hxN hW (hG.len hp) (hG.guard hp hxG)) rfl rfl ?_
      rintro _ _ ⟨rfl, f', g', n', rfl, hW'⟩
      refine V.run 20 rfl ?_
      rw [nI_add]
      exact ih (j + 1) _ f' g' n' (by omega) hW' (hG.add1 hxG) kk
theorem c_held_r (d : Bool) (hB : B ≤ 16) {G : Nat → Prop} (hp : hpOK (32 * B) (a 1) (a 3) (a 4) G) (hr : rtOK (a 12) G) {Qs : List Nat} (hq : Ql Qs (a 9) (v 6)) (hqG : Wg B G Qs) {Q : Option Value → xW → Prop} : ∀ (c j : Nat) (L : List Nat) (f g : Nat → Int32) (n : Int32), j + c = 16 → Wk (32 * B) L f g n → Wg B G L →
    (∀ f' g' n', Wk (32 * B) (insL (insL L (rts (a 12) j c)) Qs) f' g' n' → Wg B G (insL (insL L (rts (a 12) j c)) Qs) → Q none (wWk d B a v r f' g' n')) →
    V none 79 Q (0, 0) 5 [(0, .ref 0), (1, .ref (wo d)), (2, .int (nI j))] [.int (nI 16), .int (nI j)] (wWk d B a v r f g n) := by
  intro c
  induction c with
  | zero =>
    intro j L f g n hj hW hG kk
    have e : rts (a 12) j 0 = [] := rfl
    rw [e, insL_nil] at kk
    have h := c_held_q (r := r) d hB hp hq hqG (Q := Q) Qs.length 0 L f g n (by omega) hW hG kk
    cases d
    all_goals
      refine V.brT rfl rfl (nI_le (by omega) (by omega)) ?_
      refine V.run 20 rfl ?_
      exact h
  | succ c ih =>
    intro j L f g n hj hW hG kk
    rcases hr j (by omega) with h0 | ⟨x, hx, hxG⟩
    · rw [rts_0 h0] at kk
      cases d
      all_goals
        refine V.brF rfl rfl (nI_ge (show j < 16 by omega) (by omega)) ?_
        refine V.run 20 rfl ?_
        refine V.ialE rfl rfl rfl (show j < 16 by omega) (by omega) h0 ?_
        refine V.cv rfl (c_come0 _) rfl rfl ?_
        rintro _ _ ⟨rfl, rfl⟩
        refine V.run 20 rfl ?_
        rw [nI_add]
        exact ih (j + 1) L f g n (by omega) hW hG kk
    · have hxN := (hp x hxG).1
      rw [rts_1 hx (by omega), insL_cons] at kk
      cases d
      all_goals
        refine V.brF rfl rfl (nI_ge (show j < 16 by omega) (by omega)) ?_
        refine V.run 20 rfl ?_
        refine V.ialE rfl rfl rfl (show j < 16 by omega) (by omega) hx ?_
        refine V.cv rfl (c_come _ hB hxN hW (hG.len hp) (hG.guard hp hxG)) rfl rfl ?_
        rintro _ _ ⟨rfl, f', g', n', rfl, hW'⟩
        refine V.run 20 rfl ?_
        rw [nI_add]
        exact ih (j + 1) _ f' g' n' (by omega) hW' (hG.add1 hxG) kk
/-- what roots and the queue hold -/
def heldL (rt : Nat → Int32) (Qs : List Nat) : List Nat := insL (insL [] (rts rt 0 16)) Qs
theorem c_comeToHeld (d : Bool) (hB : B ≤ 16) {G : Nat → Prop} (hp : hpOK (32 * B) (a 1) (a 3) (a 4) G) (hr : rtOK (a 12) G) {Qs : List Nat} (hq : Ql Qs (a 9) (v 6)) (hqG : Wg B G Qs) (hW : Wk (32 * B) [] (a (oO d)) (a (oR d)) (v (vS d))) :
    Tot none kX4_comeToHeld [.ref 0, .ref (wo d)] (wC B a v r) (fun o w' => o = none ∧ ∃ f g n, w' = wWk d B a v r f g n ∧ Wk (32 * B) (heldL (a 12) Qs) f g n ∧ Wg B G (heldL (a 12) Qs)) := by
  refine eX4_comeToHeld ?_
  have h := c_held_r (r := r) d hB hp hr hq hqG (Q := fun o w' => o = none ∧ ∃ f g n, w' = wWk d B a v r f g n ∧ Wk (32 * B) (heldL (a 12) Qs) f g n ∧ Wg B G (heldL (a 12) Qs)) 16 0 [] (a (oO d)) (a (oR d)) (v (vS d)) (by omega) hW ⟨List.nodup_nil, fun y h => by simp at h⟩ (fun f g n h1 h2 => ⟨rfl, f, g, n, rfl, h1, h2⟩)
  cases d
  all_goals
    refine V.run 20 rfl ?_
    exact h
theorem c_heldObjects (hB : B ≤ 16) {G : Nat → Prop} (hp : hpOK (32 * B) (a 1) (a 3) (a 4) G) (hr : rtOK (a 12) G) {Qs : List Nat} (hq : Ql Qs (a 9) (v 6)) (hqG : Wg B G Qs) :
    Tot none kX4_heldObjects [.ref 0] (wC B a v r) (fun o w' => o = some (.int (nI (fol (tgs (a 1) (a 3) (a 4)) (16 * B + 1) 0 (heldL (a 12) Qs)).length)) ∧ ∃ f g n m, w' = wC B (setA (setA a 7 f) 8 g) (uV (uV v 4 n) 5 m) r) := by
  refine eX4_heldObjects ?_
  refine V.run 20 rfl ?_
  refine V.cv rfl (c_clear true hB) rfl rfl ?_
  rintro _ _ ⟨rfl, g, rfl, hg⟩
  refine V.run 20 rfl ?_
  refine V.cv rfl (c_comeToHeld true hB (a := setA a 8 g) hp hr hq hqG (Wk.nil hg)) rfl rfl ?_
  rintro _ _ ⟨rfl, f1, g1, n1, rfl, hW1, hG1⟩
  refine V.run 20 rfl ?_
  refine V.cv rfl (c_spread true hB (L := heldL (a 12) Qs) (i := 0) (a := setA (setA (setA a 8 g) 7 f1) 8 g1) hp hW1 hG1 rfl (Nat.zero_le _)) rfl rfl ?_
  rintro _ _ ⟨rfl, f2, g2, n2, rfl, hW2, hG2⟩
  refine V.run 20 rfl ?_
  refine V.cv rfl (c_wsize true) rfl rfl ?_
  rintro _ _ ⟨rfl, rfl⟩
  exact V.ri rfl ⟨congrArg (fun z => some (Value.int z)) hW2.1, f2, g2, n2, n2, rfl⟩
end CH
end
section
/-! weak fields lose what is not marked -/
def cutb (kd vl : Nat → Int32) (L : List Nat) (w : Nat) : Bool := decide (kd w = 2) && !(decide ((vl w).toNatClampNeg ∈ L))
def cfK (kd vl : Nat → Int32) (L : List Nat) (pr : Nat → Bool) : Nat → Int32 := fun w => bif pr w && cutb kd vl L w then nI 0 else kd w
def cfV (kd vl : Nat → Int32) (L : List Nat) (pr : Nat → Bool) : Nat → Int32 := fun w => bif pr w && cutb kd vl L w then nI 0 else vl w
section CF
variable {kd vl : Nat → Int32} {L : List Nat} {pr pr' : Nat → Bool} {w0 : Nat}
theorem cf_un (hk : cfK kd vl L pr w0 = 2) : (pr w0 && cutb kd vl L w0) = false ∧ kd w0 = 2 ∧ cfV kd vl L pr w0 = vl w0 := by
  unfold cfK at hk
  unfold cfV
  cases h : (pr w0 && cutb kd vl L w0) with
  | true => rw [h, cond_true] at hk; exact absurd hk (by decide)
  | false => rw [h, cond_false] at hk; exact ⟨rfl, hk, by rw [cond_false]⟩
theorem cf_cut (h : ∀ w, pr' w = (pr w || Nat.beq w w0)) (hk : cfK kd vl L pr w0 = 2) (hv : (cfV kd vl L pr w0).toNatClampNeg ∉ L) : upd (cfK kd vl L pr) w0 (nI 0) = cfK kd vl L pr' ∧ upd (cfV kd vl L pr) w0 (nI 0) = cfV kd vl L pr' := by
  obtain ⟨h1, h2, h3⟩ := cf_un hk
  rw [h3] at hv
  have hc : cutb kd vl L w0 = true := by simp [cutb, h2, hv]
  have hp : pr' w0 = true := by rw [h w0]; simp
  constructor
  all_goals
    funext w
    by_cases q : w = w0
    · subst q
      rw [upd_s]
      simp [cfK, cfV, hp, hc]
    · rw [upd_n q]
      have : pr' w = pr w := by rw [h w]; simp [q]
      simp [cfK, cfV, this]
theorem cf_keep (h : ∀ w, pr' w = (pr w || Nat.beq w w0)) (hn : ¬ (cfK kd vl L pr w0 = 2 ∧ (cfV kd vl L pr w0).toNatClampNeg ∉ L)) : cfK kd vl L pr = cfK kd vl L pr' ∧ cfV kd vl L pr = cfV kd vl L pr' := by
  have key : (pr w0 && cutb kd vl L w0) = (pr' w0 && cutb kd vl L w0) := by
    have hp : pr' w0 = true := by rw [h w0]; simp
    rw [hp, Bool.true_and]
    cases hc : cutb kd vl L w0 with
    | false => simp
    | true =>
      rw [Bool.and_true]
      cases hpr : pr w0 with
      | true => rfl
      | false =>
        exfalso
        apply hn
        simp only [cutb, Bool.and_eq_true, decide_eq_true_eq, Bool.not_eq_true', decide_eq_false_iff_not] at hc
        exact ⟨by simp [cfK, hpr, hc.1], by simp [cfV, hpr, hc.2]⟩
  constructor
  all_goals
    funext w
    by_cases q : w = w0
    · subst q
      simp only [cfK, cfV, key]
    · have : pr' w = pr w := by rw [h w]; simp [q]
      simp [cfK, cfV, this]
end CF
/-- the words of the fields of a list's objects -/
def inF (fd : Nat → Int32) (L : List Nat) (w : Nat) : Bool := L.any (fun y => Nat.ble (y + 1) w && Nat.ble w (y + (fd y).toNatClampNeg))
def prJ (fd : Nat → Int32) (L : List Nat) (x j : Nat) : Nat → Bool := fun w => inF fd L w || (Nat.ble (x + 1) w && Nat.ble w (x + j))
theorem prJ_s (fd : Nat → Int32) (L : List Nat) (x j w : Nat) : prJ fd L x (j + 1) w = (prJ fd L x j w || Nat.beq w (x + 1 + j)) := by
  unfold prJ
  rw [Bool.or_assoc]
  congr 1
  rw [Bool.eq_iff_iff]
  simp only [Bool.and_eq_true, Bool.or_eq_true, Nat.ble_eq, Nat.beq_eq]
  omega
theorem prJ_0 (fd : Nat → Int32) (L : List Nat) (x : Nat) : prJ fd L x 0 = inF fd L := by
  funext w
  unfold prJ
  have : (Nat.ble (x + 1) w && Nat.ble w (x + 0)) = false := by
    rw [Bool.eq_false_iff]
    simp only [ne_eq, Bool.and_eq_true, Nat.ble_eq]
    omega
  rw [this, Bool.or_false]
theorem prJ_m {fd : Nat → Int32} {L : List Nat} {x m : Nat} (h : fd x = nI m) (hm : m ≤ 15) : prJ fd L x m = inF fd (L ++ [x]) := by
  funext w
  unfold prJ inF
  rw [List.any_append]
  simp [h, nI_clamp (show m < 2 ^ 31 by omega)]
theorem le_eq {x : Int32} {n m : Nat} (e : x = nI n) (h : n ≤ m) (hm : m < 2 ^ 31) : x ≤ nI m := by rw [e]; exact nI_le h hm
section CC
variable {B : Nat} {a : Nat → Nat → Int32} {v : Nat → Int32} {r : xW}
/-- the world with other kinds and values -/
abbrev wKV (B : Nat) (a : Nat → Nat → Int32) (v : Nat → Int32) (r : xW) (kd vl : Nat → Int32) : xW := wC B (setA (setA a 3 kd) 4 vl) v r
theorem c_cut_in (hB : B ≤ 16) {G : Nat → Prop} (hp : hpOK (32 * B) (a 1) (a 3) (a 4) G) {L L1 : List Nat} (hW : Wk (32 * B) L (a 5) (a 6) (v 2)) (hG : Wg B G L) {x m i : Nat} (hx : G x) (hm : a 1 x = nI m) (hm15 : m ≤ 15) {Q : Option Value → xW → Prop}
    (kk : V none 81 Q (0, 0) 97 [(0, .ref 0), (1, .int (nI i))] [] (wKV B a v r (cfK (a 3) (a 4) L (inF (a 1) (L1 ++ [x]))) (cfV (a 3) (a 4) L (inF (a 1) (L1 ++ [x]))))) : ∀ (c j : Nat), j + c = m →
    V none 81 Q (0, 0) 30 [(0, .ref 0), (1, .int (nI i)), (2, .int (nI x)), (3, .int (nI j))] [.int (nI x), .ref 1, .int (nI j)] (wKV B a v r (cfK (a 3) (a 4) L (prJ (a 1) L1 x j)) (cfV (a 3) (a 4) L (prJ (a 1) L1 x j))) := by
  obtain ⟨hxN, -, m', hm', hf', hmN, hj'⟩ := hp x hx
  have e : m' = m := nI_inj (by omega) (by omega) (hf'.symm.trans hm)
  subst e
  have hlen := hG.len hp
  intro c
  induction c with
  | zero =>
    intro j hj
    have e : j = m' := by omega
    subst e
    rw [prJ_m hm hm15]
    refine V.cv rfl (c_fieldsOfE hB hxN (by exact hm)) rfl rfl ?_
    rintro _ _ ⟨rfl, rfl⟩
    refine V.brT rfl rfl (nI_le (Nat.le_refl j) (by omega)) ?_
    exact V.lt 2 rfl kk
  | succ c ih =>
    intro j hj
    have hjN : x + 1 + j < 32 * B := by omega
    have hjm := hj' j (by omega)
    have hpr := prJ_s (a 1) L1 x j
    have ih := ih (j + 1) (by omega)
    by_cases hk : cfK (a 3) (a 4) L (prJ (a 1) L1 x j) (x + 1 + j) = 2
    · obtain ⟨-, hk2, hv2⟩ := cf_un hk
      obtain ⟨y, hy, hyG⟩ : ∃ y, a 4 (x + 1 + j) = nI y ∧ G y := by
        rcases hjm with h0 | ⟨-, h⟩
        · rw [h0] at hk2; exact absurd hk2 (by decide)
        · exact h
      have hyN := (hp y hyG).1
      have hvy : cfV (a 3) (a 4) L (prJ (a 1) L1 x j) (x + 1 + j) = nI y := hv2.trans hy
      refine V.cv rfl (c_fieldsOfE hB hxN (by exact hm)) rfl rfl ?_
      rintro _ _ ⟨rfl, rfl⟩
      refine V.brF rfl rfl (nI_ge (show j < m' by omega) (by omega)) ?_
      refine V.run 20 rfl ?_
      refine V.cv rfl (c_kindOfE hB hjN (by exact hk)) rfl rfl ?_
      rintro _ _ ⟨rfl, rfl⟩
      refine V.run 20 rfl ?_
      refine V.brF rfl rfl (fun h => h rfl) ?_
      refine V.run 20 rfl ?_
      refine V.brF rfl rfl i1_ne0 ?_
      refine V.run 20 rfl ?_
      refine V.cv rfl (c_valueOfE hB hjN (by exact hvy)) rfl rfl ?_
      rintro _ _ ⟨rfl, rfl⟩
      by_cases hyL : y ∈ L
      · obtain ⟨e1, e2⟩ := cf_keep (kd := a 3) (vl := a 4) (L := L) hpr (fun h => h.2 (by rw [hvy, nI_clamp (by omega)]; exact hyL))
        rw [← e1, ← e2] at ih
        refine V.cv rfl (c_whas1 false hB hyN (by exact hW.not (by omega) hyL)) rfl rfl ?_
        rintro _ _ ⟨rfl, rfl⟩
        refine V.brT rfl rfl i1_ne0 ?_
        refine V.run 20 rfl ?_
        rw [nI_add]
        exact V.lt 4 rfl ih
      · obtain ⟨e1, e2⟩ := cf_cut (kd := a 3) (vl := a 4) (L := L) hpr hk (by rw [hvy, nI_clamp (by omega)]; exact hyL)
        rw [← e1, ← e2] at ih
        refine V.cv rfl (c_whas0 false hB hyN (by exact hW.2.2.1 y hyN hyL)) rfl rfl ?_
        rintro _ _ ⟨rfl, rfl⟩
        refine V.brF rfl rfl (fun h => h i0_eq0) ?_
        refine V.run 20 rfl ?_
        refine V.cv rfl (c_write hB hjN) rfl rfl ?_
        rintro _ _ ⟨rfl, rfl⟩
        refine V.run 20 rfl ?_
        rw [nI_add]
        exact V.lt 4 rfl ih
    · obtain ⟨e1, e2⟩ := cf_keep (kd := a 3) (vl := a 4) (L := L) hpr (fun h => hk h.1)
      rw [← e1, ← e2] at ih
      refine V.cv rfl (c_fieldsOfE hB hxN (by exact hm)) rfl rfl ?_
      rintro _ _ ⟨rfl, rfl⟩
      refine V.brF rfl rfl (nI_ge (show j < m' by omega) (by omega)) ?_
      refine V.run 20 rfl ?_
      refine V.cv rfl (c_kindOf hB hjN) rfl rfl ?_
      rintro _ _ ⟨rfl, rfl⟩
      refine V.run 20 rfl ?_
      refine V.brT rfl rfl hk ?_
      refine V.run 20 rfl ?_
      refine V.brT rfl rfl i0_eq0 ?_
      refine V.run 20 rfl ?_
      rw [nI_add]
      exact V.lt 4 rfl ih
/-- kinds and values behind the cutting -/
def loK (fd kd vl : Nat → Int32) (L : List Nat) : Nat → Int32 := cfK kd vl L (inF fd L)
def loV (fd kd vl : Nat → Int32) (L : List Nat) : Nat → Int32 := cfV kd vl L (inF fd L)
theorem cf_nil (kd vl : Nat → Int32) (L : List Nat) (fd : Nat → Int32) : cfK kd vl L (inF fd []) = kd ∧ cfV kd vl L (inF fd []) = vl := by
  constructor <;> funext w <;> simp [cfK, cfV, inF]
theorem c_cutWeakFields (hB : B ≤ 16) {G : Nat → Prop} (hp : hpOK (32 * B) (a 1) (a 3) (a 4) G) {L : List Nat} (hW : Wk (32 * B) L (a 5) (a 6) (v 2)) (hG : Wg B G L) :
    Tot none kX4_cutWeakFields [.ref 0] (wC B a v r) (rN (wKV B a v r (loK (a 1) (a 3) (a 4) L) (loV (a 1) (a 3) (a 4) L))) := by
  have hlen := hG.len hp
  have loop : ∀ (c i : Nat), i + c = L.length → V none 81 (rN (wKV B a v r (loK (a 1) (a 3) (a 4) L) (loV (a 1) (a 3) (a 4) L))) (0, 0) 7 [(0, .ref 0), (1, .int (nI i))] [.ref 7, .int (nI i)] (wKV B a v r (cfK (a 3) (a 4) L (inF (a 1) (L.take i))) (cfV (a 3) (a 4) L (inF (a 1) (L.take i)))) := by
    intro c
    induction c with
    | zero =>
      intro i hi
      rw [List.take_of_length_le (by omega)]
      refine V.cv rfl (c_wsize false) rfl rfl ?_
      rintro _ _ ⟨rfl, rfl⟩
      refine V.brT rfl rfl (le_eq hW.1 (by omega) (by omega)) ?_
      exact V.rv rfl ⟨rfl, rfl⟩
    | succ c ih =>
      intro i hi
      have hlt : i < L.length := by omega
      obtain ⟨x, hx⟩ : ∃ x, L[i]? = some x := ⟨_, List.getElem?_eq_getElem hlt⟩
      have hfx := (hW.2.1 i x hx).1
      have hxG := hG.2 x (List.mem_of_getElem? hx)
      obtain ⟨hxN, -, q, hq15, hfq, -, -⟩ := hp x hxG
      have et : L.take (i + 1) = L.take i ++ [x] := by rw [List.take_add_one, hx]; rfl
      have ih := ih (i + 1) (by omega)
      rw [et] at ih
      refine V.cv rfl (c_wsize false) rfl rfl ?_
      rintro _ _ ⟨rfl, rfl⟩
      refine V.brF rfl rfl (fun h => nI_ge hlt (by omega) (hW.1 ▸ h)) ?_
      refine V.run 20 rfl ?_
      refine V.cv rfl (c_wgetE false hB (by exact hW.1) hlt hlen (by exact hfx)) rfl rfl ?_
      rintro _ _ ⟨rfl, rfl⟩
      refine V.run 20 rfl ?_
      have h := c_cut_in (r := r) (L1 := L.take i) (i := i) hB hp hW hG hxG hfq hq15 (Q := rN (wKV B a v r (loK (a 1) (a 3) (a 4) L) (loV (a 1) (a 3) (a 4) L))) (by
        refine V.run 20 rfl ?_
        rw [nI_add]
        exact ih) q 0 (by omega)
      rw [prJ_0] at h
      exact h
  refine eX4_cutWeakFields ?_
  refine V.run 20 rfl ?_
  have h := loop L.length 0 (by omega)
  rw [List.take_zero, (cf_nil (a 3) (a 4) L (a 1)).1, (cf_nil (a 3) (a 4) L (a 1)).2] at h
  exact h
end CC
end
section
/-! the queue: by names -/
def insN (nm : Nat → Int32) (x : Nat) : List Nat → List Nat
  | [] => [x]
  | y :: r => if nm y < nm x then y :: insN nm x r else x :: y :: r
theorem insN_mem {nm : Nat → Int32} {x z : Nat} : ∀ {T : List Nat}, z ∈ insN nm x T ↔ z = x ∨ z ∈ T
  | [] => by simp [insN]
  | y :: r => by
    unfold insN
    split
    · rw [List.mem_cons, insN_mem, List.mem_cons]
      constructor
      · rintro (h | h | h)
        · exact Or.inr (Or.inl h)
        · exact Or.inl h
        · exact Or.inr (Or.inr h)
      · rintro (h | h | h)
        · exact Or.inr (Or.inl h)
        · exact Or.inl h
        · exact Or.inr (Or.inr h)
    · simp
theorem insN_split {nm : Nat → Int32} {x : Nat} {T2 : List Nat} (h2 : ∀ y ∈ T2, ¬ nm y < nm x) : ∀ {T1 : List Nat}, (∀ y ∈ T1, nm y < nm x) → insN nm x (T1 ++ T2) = T1 ++ x :: T2
  | [], _ => by
    cases T2 with
    | nil => rfl
    | cons y r => simp only [List.nil_append, insN, if_neg (h2 y List.mem_cons_self)]
  | y :: r, h1 => by
    simp only [List.cons_append, insN, if_pos (h1 y List.mem_cons_self)]
    rw [insN_split h2 (fun z hz => h1 z (List.mem_cons_of_mem _ hz))]
theorem insN_len {nm : Nat → Int32} {x : Nat} : ∀ {T : List Nat}, (insN nm x T).length = T.length + 1
  | [] => rfl
  | y :: r => by
    unfold insN
    split
    · simp [insN_len]
    · simp
theorem insN_nodup {nm : Nat → Int32} {x : Nat} : ∀ {T : List Nat}, T.Nodup → x ∉ T → (insN nm x T).Nodup
  | [], _, _ => by simp [insN]
  | y :: r, h, hx => by
    rw [List.nodup_cons] at h
    simp only [List.mem_cons, not_or] at hx
    unfold insN
    split
    · rw [List.nodup_cons]
      refine ⟨fun q => ?_, insN_nodup h.2 hx.2⟩
      rcases insN_mem.mp q with e | e
      · exact hx.1 e.symm
      · exact h.1 e
    · rw [List.nodup_cons, List.nodup_cons]
      exact ⟨by simp [hx.1, hx.2], h⟩
/-- strictly by names -/
def srt (nm : Nat → Int32) (T : List Nat) : Prop := T.Pairwise (fun x y => nm x < nm y)
theorem i32_tr {x y z : Int32} (h1 : x < y) (h2 : y < z) : x < z := by
  rw [Int32.lt_iff_toInt_lt] at *
  omega
theorem i32_tl {x y z : Int32} (h1 : x < y) (h2 : y ≤ z) : x < z := by
  rw [Int32.lt_iff_toInt_lt] at *
  rw [Int32.le_iff_toInt_le] at h2
  omega
theorem i32_lt {x y : Int32} (h1 : x ≤ y) (h2 : x ≠ y) : x < y := by
  rw [Int32.lt_iff_toInt_lt]
  rw [Int32.le_iff_toInt_le] at h1
  have : x.toInt ≠ y.toInt := fun e => h2 (Int32.toInt_inj.mp e)
  omega
theorem i32_nle {x y : Int32} (h : ¬ x ≤ y) : y < x := Int32.not_le.mp h
theorem i32_asy {x y : Int32} (h : x < y) : ¬ y < x := fun q => by
  rw [Int32.lt_iff_toInt_lt] at *
  omega
theorem insN_srt {nm : Nat → Int32} {x : Nat} : ∀ {T : List Nat}, srt nm T → (∀ y ∈ T, nm y ≠ nm x) → srt nm (insN nm x T)
  | [], _, _ => by simp [insN, srt]
  | y :: r, h, hd => by
    unfold srt at h ⊢
    rw [List.pairwise_cons] at h
    unfold insN
    split
    · rename_i hlt
      rw [List.pairwise_cons]
      refine ⟨fun z hz => ?_, insN_srt h.2 (fun z hz => hd z (List.mem_cons_of_mem _ hz))⟩
      rcases insN_mem.mp hz with rfl | hz
      · exact hlt
      · exact h.1 z hz
    · rename_i hlt
      have hxy : nm x < nm y := i32_lt (Int32.not_lt.mp hlt) (fun e => hd y List.mem_cons_self e.symm)
      rw [List.pairwise_cons, List.pairwise_cons]
      refine ⟨fun z hz => ?_, h⟩
      rcases List.mem_cons.mp hz with rfl | hz
      · exact hxy
      · exact i32_tr hxy (h.1 z hz)
section CL
variable {B : Nat} {a : Nat → Nat → Int32} {v : Nat → Int32} {r : xW}
theorem c_addByName (hB : B ≤ 16) {Q0 T : List Nat} {x : Nat} (hq : Ql (Q0 ++ T) (a 9) (v 6)) (hlen : (Q0 ++ T).length < 16 * B) (hx : x < 32 * B) (hT : ∀ y ∈ T, y < 32 * B) (hs : srt (a 0) T) (hd : ∀ y ∈ T, a 0 y ≠ a 0 x) :
    Tot none kX1_addByName [.ref 13, .int (nI x), .int (nI Q0.length), .ref 1] (wC B a v r) (fun o w' => o = none ∧ ∃ f n, w' = wC B (setA a 9 f) (uV v 6 n) r ∧ Ql (Q0 ++ insN (a 0) x T) f n) := by
  have hlq : Q0.length + T.length < 16 * B := by rwa [List.length_append] at hlen
  have hv6 : v 6 = nI (Q0.length + T.length) := by rw [hq.1, List.length_append]
  have fin : ∀ (c : Nat) (f : Nat → Int32), c ≤ T.length → (∀ k y, (Q0 ++ T.take c)[k]? = some y → f k = nI y) → (∀ k y, (T.drop c)[k]? = some y → f (Q0.length + c + 1 + k) = nI y) → (∀ y ∈ T.take c, a 0 y < a 0 x) → (∀ y ∈ T.drop c, a 0 x < a 0 y) →
      V none 27 (fun o w' => o = none ∧ ∃ f n, w' = wC B (setA a 9 f) (uV v 6 n) r ∧ Ql (Q0 ++ insN (a 0) x T) f n) (0, 0) 72 [(0, .ref 13), (1, .int (nI x)), (2, .int (nI Q0.length)), (3, .ref 1), (4, .int (nI (Q0.length + c)))] [] (wC B (setA a 9 f) v r) := by
    intro c f hc h1 h2 h3 h4
    refine V.run 20 rfl ?_
    refine V.iast (w' := wC B (setA a 9 (upd f (Q0.length + c) (nI x))) v r) rfl rfl rfl (show Q0.length + c < 16 * B by omega) (by omega) rfl ?_
    refine V.run 20 rfl ?_
    refine V.puti (w' := wC B (setA a 9 (upd f (Q0.length + c) (nI x))) (uV v 6 (v 6 + nI 1)) r) rfl rfl rfl ?_
    refine V.rv rfl ⟨rfl, _, _, rfl, ?_, ?_⟩
    · rw [hv6, nI_add, List.length_append, insN_len, Nat.add_assoc]
    · have e : insN (a 0) x T = T.take c ++ x :: T.drop c := by
        conv => lhs; rw [← List.take_append_drop c T]
        exact insN_split (fun y hy => i32_asy (h4 y hy)) h3
      rw [e, ← List.append_assoc]
      have hl : (Q0 ++ T.take c).length = Q0.length + c := by rw [List.length_append, List.length_take]; omega
      intro i z hz
      by_cases q1 : i < Q0.length + c
      · rw [List.getElem?_append_left (by omega)] at hz
        rw [upd_n (by omega)]
        exact h1 i z hz
      · rw [List.getElem?_append_right (by omega), hl] at hz
        by_cases q2 : i = Q0.length + c
        · subst q2
          rw [Nat.sub_self, List.getElem?_cons_zero] at hz
          cases hz
          exact upd_s
        · obtain ⟨k, hk⟩ : ∃ k, i = Q0.length + c + 1 + k := ⟨i - (Q0.length + c + 1), by omega⟩
          subst hk
          rw [show Q0.length + c + 1 + k - (Q0.length + c) = k + 1 by omega, List.getElem?_cons_succ] at hz
          rw [upd_n (by omega)]
          exact h2 k z hz
  have loop : ∀ (c : Nat) (f : Nat → Int32), c ≤ T.length → (∀ k y, (Q0 ++ T.take c)[k]? = some y → f k = nI y) → (∀ k y, (T.drop c)[k]? = some y → f (Q0.length + c + 1 + k) = nI y) → (∀ y ∈ T.drop c, a 0 x < a 0 y) → ∀ xi : Int32, xi = nI (Q0.length + c) →
      V none 27 (fun o w' => o = none ∧ ∃ f n, w' = wC B (setA a 9 f) (uV v 6 n) r ∧ Ql (Q0 ++ insN (a 0) x T) f n) (0, 0) 26 [(0, .ref 13), (1, .int (nI x)), (2, .int (nI Q0.length)), (3, .ref 1), (4, .int xi)] [.int (nI Q0.length), .int xi] (wC B (setA a 9 f) v r) := by
    intro c
    induction c with
    | zero =>
      intro f hc h1 h2 h4 xi hxi
      subst hxi
      refine V.brT rfl rfl (nI_le (by omega) (by omega)) ?_
      exact fin 0 f hc h1 h2 (fun y hy => by simp at hy) h4
    | succ c ih =>
      intro f hc h1 h2 h4 xi hxi
      subst hxi
      have hlt : c < T.length := by omega
      obtain ⟨y, hy⟩ : ∃ y, T[c]? = some y := ⟨_, List.getElem?_eq_getElem hlt⟩
      have hyT := List.mem_of_getElem? hy
      have et : T.take (c + 1) = T.take c ++ [y] := by rw [List.take_add_one, hy]; rfl
      have ed : T.drop c = y :: T.drop (c + 1) := by
        obtain ⟨g1, g2⟩ := List.getElem?_eq_some_iff.mp hy
        rw [← g2]
        exact List.drop_eq_getElem_cons g1
      have hl : (Q0 ++ T.take c).length = Q0.length + c := by rw [List.length_append, List.length_take]; omega
      have hfy : f (Q0.length + c) = nI y := by
        refine h1 _ y ?_
        rw [et, ← List.append_assoc, List.getElem?_append_right (by omega), hl, Nat.sub_self]
        rfl
      refine V.brF rfl rfl (nI_ge (show Q0.length < Q0.length + (c + 1) by omega) (by omega)) ?_
      refine V.run 20 rfl ?_
      refine V.ialE rfl rfl (j := Q0.length + c) (pk_sub (a := Q0.length + (c + 1)) (b := 1) (by omega)) (show Q0.length + c < 16 * B by omega) (by omega) hfy ?_
      refine V.cv rfl (c_nameAt hB (hT y hyT)) rfl rfl ?_
      rintro _ _ ⟨rfl, rfl⟩
      refine V.run 20 rfl ?_
      refine V.cv rfl (c_nameAt hB hx) rfl rfl ?_
      rintro _ _ ⟨rfl, rfl⟩
      refine V.br rfl rfl (fun h => ?_) (fun h => ?_)
      · refine fin (c + 1) f hc h1 h2 (fun z hz => ?_) h4
        have hyx : a 0 y < a 0 x := i32_lt h (hd y hyT)
        rw [et] at hz
        rcases List.mem_append.mp hz with q | q
        · have hs' := hs
          unfold srt at hs'
          rw [← List.take_append_drop c T, ed, List.pairwise_append] at hs'
          exact i32_tr (hs'.2.2 z q y List.mem_cons_self) hyx
        · simp at q; rw [q]; exact hyx
      · refine V.run 20 rfl ?_
        refine V.ialE rfl rfl (j := Q0.length + c) (pk_sub (a := Q0.length + (c + 1)) (b := 1) (by omega)) (show Q0.length + c < 16 * B by omega) (by omega) hfy ?_
        refine V.iast (w' := wC B (setA a 9 (upd f (Q0.length + (c + 1)) (nI y))) v r) rfl rfl rfl (show Q0.length + (c + 1) < 16 * B by omega) (by omega) rfl ?_
        refine V.run 20 rfl ?_
        refine ih (upd f (Q0.length + (c + 1)) (nI y)) (by omega) (fun k z hz => ?_) (fun k z hz => ?_) (fun z hz => ?_) _ (pk_m1 (Q0.length + c))
        · have hk := (List.getElem?_eq_some_iff.mp hz).1
          rw [upd_n (by omega)]
          refine h1 k z ?_
          rw [et, ← List.append_assoc, List.getElem?_append_left (by omega)]
          exact hz
        · rw [ed] at hz
          cases k with
          | zero =>
            rw [List.getElem?_cons_zero] at hz
            cases hz
            exact upd_s
          | succ k =>
            rw [List.getElem?_cons_succ] at hz
            rw [upd_n (by omega), ← h2 k z hz]
            congr 1
            omega
        · rw [ed] at hz
          rcases List.mem_cons.mp hz with rfl | hz
          · exact i32_nle h
          · exact h4 z hz
  refine eX1_addByName ?_
  refine V.run 20 rfl ?_
  refine V.brF rfl rfl (fun h => nI_ge hlq (by omega) (hv6 ▸ h)) ?_
  refine V.run 20 rfl ?_
  refine V.brT rfl rfl (nI_pos' (by omega)) ?_
  refine V.run 20 rfl ?_
  refine loop T.length (a 9) (Nat.le_refl _) (fun k y hk => ?_) (fun k y hk => ?_) (fun y hy => ?_) _ hv6
  · rw [List.take_length] at hk
    exact hq.2 k y hk
  · rw [List.drop_length] at hk
    simp at hk
  · rw [List.drop_length] at hy
    simp at hy
theorem c_takeFirst0 (h : v 6 = nI 0) : Tot none kX1_takeFirst [.ref 13] (wC B a v r) (rI (-1) (wC B a v r)) := by
  refine eX1_takeFirst ?_
  refine V.run 20 rfl ?_
  refine V.brT rfl rfl (by rw [h]; decide) ?_
  refine V.run 20 rfl ?_
  exact V.ri rfl ⟨rfl, rfl⟩
theorem c_takeFirst (hB : B ≤ 16) {x : Nat} {Qs : List Nat} (hq : Ql (x :: Qs) (a 9) (v 6)) (hl : (x :: Qs).length ≤ 16 * B) :
    Tot none kX1_takeFirst [.ref 13] (wC B a v r) (fun o w' => o = some (.int (nI x)) ∧ ∃ f n, w' = wC B (setA a 9 f) (uV v 6 n) r ∧ Ql Qs f n) := by
  have hl' : Qs.length + 1 ≤ 16 * B := by rwa [List.length_cons] at hl
  have hv6 : v 6 = nI (Qs.length + 1) := by rw [hq.1, List.length_cons]
  have loop : ∀ (c i : Nat) (f : Nat → Int32), i + c = Qs.length → (∀ k y, Qs[k]? = some y → (k < i → f k = nI y) ∧ (i ≤ k → f (k + 1) = nI y)) →
      V none 28 (fun o w' => o = some (.int (nI x)) ∧ ∃ f n, w' = wC B (setA a 9 f) (uV v 6 n) r ∧ Ql Qs f n) (0, 0) 31 [(0, .ref 13), (1, .int (nI x)), (2, .int (nI (1 + i)))] [.int (v 6), .int (nI (1 + i))] (wC B (setA a 9 f) v r) := by
    intro c
    induction c with
    | zero =>
      intro i f hi hf
      refine V.brT rfl rfl (le_eq hv6 (by omega) (by omega)) ?_
      refine V.run 20 rfl ?_
      refine V.puti (w' := wC B (setA a 9 f) (uV v 6 (v 6 - nI 1)) r) rfl rfl rfl ?_
      refine V.run 20 rfl ?_
      refine V.ri rfl ⟨rfl, f, _, rfl, ?_, fun k y hk => ?_⟩
      · rw [hv6]
        exact pk_sub (a := Qs.length + 1) (b := 1) (by omega)
      · exact (hf k y hk).1 (by have := (List.getElem?_eq_some_iff.mp hk).1; omega)
    | succ c ih =>
      intro i f hi hf
      obtain ⟨y, hy⟩ : ∃ y, Qs[i]? = some y := ⟨_, List.getElem?_eq_getElem (by omega)⟩
      refine V.brF rfl rfl (fun h => nI_ge (show 1 + i < Qs.length + 1 by omega) (by omega) (hv6 ▸ h)) ?_
      refine V.run 20 rfl ?_
      refine V.brF rfl rfl (nI_ge (show 1 + i < 16 * B by omega) (by omega)) ?_
      refine V.run 20 rfl ?_
      refine V.ialE rfl rfl (j := i + 1) (by rw [Nat.add_comm]) (show i + 1 < 16 * B by omega) (by omega) ((hf i y hy).2 (Nat.le_refl i)) ?_
      refine V.iast (j := i) (w' := wC B (setA a 9 (upd f i (nI y))) v r) rfl rfl (by rw [pk_sub (by omega)]; congr 1; omega) (show i < 16 * B by omega) (by omega) rfl ?_
      refine V.run 20 rfl ?_
      rw [nI_add]
      refine ih (i + 1) (upd f i (nI y)) (by omega) (fun k z hk => ⟨fun h => ?_, fun h => ?_⟩)
      · by_cases q : k = i
        · subst q
          rw [upd_s]
          rw [hy] at hk
          cases hk
          rfl
        · rw [upd_n q]
          exact (hf k z hk).1 (by omega)
      · rw [upd_n (by omega)]
        exact (hf k z hk).2 (by omega)
  refine eX1_takeFirst ?_
  refine V.run 20 rfl ?_
  refine V.brF rfl rfl (fun h => nI_ge (show 0 < Qs.length + 1 by omega) (by omega) (hv6 ▸ h)) ?_
  refine V.run 20 rfl ?_
  refine V.brT rfl rfl (nI_ne (a := 16 * B) (b := 0) (by omega) (by omega) (by omega)) ?_
  refine V.run 20 rfl ?_
  refine V.ialE rfl rfl (j := 0) rfl (show 0 < 16 * B by omega) (by omega) (hq.2 0 x rfl) ?_
  refine V.run 20 rfl ?_
  exact loop Qs.length 0 (a 9) (by omega) (fun k y hk => ⟨fun h => absurd h (Nat.not_lt_zero k), fun _ => hq.2 (k + 1) y hk⟩)
end CL
end
section
/-! watched objects that are not marked come to the queue; marking as a whole -/
def sq (nm wt : Nat → Int32) (L : List Nat) : Nat → List Nat
  | 0 => []
  | k + 1 => if wt (2 * k) = 1 ∧ 2 * k ∉ L then insN nm (2 * k) (sq nm wt L k) else sq nm wt L k
def wtQ (wt : Nat → Int32) (L : List Nat) (k : Nat) : Nat → Int32 := fun w => bif Nat.ble (w + 1) (2 * k) && (Nat.beq (w % 2) 0 && (decide (wt w = 1) && !decide (w ∈ L))) then nI 0 else wt w
theorem sq_mem {nm wt : Nat → Int32} {L : List Nat} {y : Nat} : ∀ {k : Nat}, y ∈ sq nm wt L k ↔ y < 2 * k ∧ y % 2 = 0 ∧ wt y = 1 ∧ y ∉ L
  | 0 => by simp [sq]
  | k + 1 => by
    unfold sq
    have ih := sq_mem (nm := nm) (wt := wt) (L := L) (y := y) (k := k)
    split
    · rename_i h
      rw [insN_mem, ih]
      constructor
      · rintro (rfl | h2)
        · exact ⟨by omega, by omega, h.1, h.2⟩
        · exact ⟨by omega, h2.2⟩
      · rintro ⟨h1, h2, h3⟩
        by_cases q : y = 2 * k
        · exact Or.inl q
        · exact Or.inr ⟨by omega, h2, h3⟩
    · rename_i h
      rw [ih]
      constructor
      · rintro ⟨h1, h2⟩
        exact ⟨by omega, h2⟩
      · rintro ⟨h1, h2, h3⟩
        refine ⟨?_, h2, h3⟩
        have : y ≠ 2 * k := fun q => h (q ▸ h3)
        omega
theorem wtQ_0 (wt : Nat → Int32) (L : List Nat) : wtQ wt L 0 = wt := by
  funext w
  have : Nat.ble (w + 1) (2 * 0) = false := by rw [Bool.eq_false_iff]; simp
  simp only [wtQ, this, Bool.false_and, cond_false]
theorem wtQ_at (wt : Nat → Int32) (L : List Nat) (k : Nat) : wtQ wt L k (2 * k) = wt (2 * k) := by
  have : Nat.ble (2 * k + 1) (2 * k) = false := by rw [Bool.eq_false_iff]; simp only [ne_eq, Nat.ble_eq]; omega
  simp only [wtQ, this, Bool.false_and, cond_false]
theorem wtQ_ne {wt : Nat → Int32} {L : List Nat} {k w : Nat} (h : w ≠ 2 * k) : wtQ wt L (k + 1) w = wtQ wt L k w := by
  unfold wtQ
  have : (Nat.ble (w + 1) (2 * (k + 1)) && (Nat.beq (w % 2) 0 && (decide (wt w = 1) && !decide (w ∈ L)))) = (Nat.ble (w + 1) (2 * k) && (Nat.beq (w % 2) 0 && (decide (wt w = 1) && !decide (w ∈ L)))) := by
    rw [Bool.eq_iff_iff]
    simp only [Bool.and_eq_true, Nat.ble_eq, Nat.beq_eq]
    constructor
    · rintro ⟨h1, h2, h3⟩; exact ⟨by omega, h2, h3⟩
    · rintro ⟨h1, h2, h3⟩; exact ⟨by omega, h2, h3⟩
  rw [this]
theorem wtQ_cut {wt : Nat → Int32} {L : List Nat} {k : Nat} (h : wt (2 * k) = 1 ∧ 2 * k ∉ L) : upd (wtQ wt L k) (2 * k) (nI 0) = wtQ wt L (k + 1) := by
  funext w
  by_cases q : w = 2 * k
  · subst q
    rw [upd_s]
    have h1 : Nat.ble (2 * k + 1) (2 * (k + 1)) = true := by simp only [Nat.ble_eq]; omega
    simp [wtQ, h1, h.1, h.2]
  · rw [upd_n q, wtQ_ne q]
theorem wtQ_keep {wt : Nat → Int32} {L : List Nat} {k : Nat} (h : ¬ (wt (2 * k) = 1 ∧ 2 * k ∉ L)) : wtQ wt L k = wtQ wt L (k + 1) := by
  funext w
  by_cases q : w = 2 * k
  · subst q
    rw [wtQ_at]
    unfold wtQ
    have : (decide (wt (2 * k) = 1) && !decide (2 * k ∈ L)) = false := by
      rw [Bool.eq_false_iff]
      simpa using h
    rw [this]
    simp
  · rw [wtQ_ne q]
section CQ
variable {B : Nat} {a : Nat → Nat → Int32} {v : Nat → Int32} {r : xW}
theorem c_isWatchedE (hB : B ≤ 16) {x : Nat} (hx : x < 32 * B) {y : Int32} (hy : a 2 x = y) (hw : y = 0 ∨ y = 1) : Tot none kX2_isWatched [.ref 1, .int (nI x)] (wC B a v r) (rI y (wC B a v r)) := by
  subst hy
  exact c_isWatched hB hx hw
/-- of watched objects: each matters, and no two have one name -/
def wtOK (N : Nat) (nm wt : Nat → Int32) (G : Nat → Prop) : Prop := (∀ w, w < N → wt w = 0 ∨ wt w = 1) ∧ (∀ w, w < N → wt w = 1 → G w) ∧ ∀ x y, x < N → y < N → wt x = 1 → wt y = 1 → nm x = nm y → x = y
theorem sq_ok {N : Nat} {nm wt : Nat → Int32} {G : Nat → Prop} (h : wtOK N nm wt G) (L : List Nat) : ∀ k, 2 * k ≤ N → (sq nm wt L k).Nodup ∧ srt nm (sq nm wt L k)
  | 0, _ => ⟨by simp [sq], by simp [sq, srt]⟩
  | k + 1, hk => by
    obtain ⟨h1, h2⟩ := sq_ok h L k (by omega)
    unfold sq
    split
    · rename_i hc
      refine ⟨insN_nodup h1 (fun q => ?_), insN_srt h2 (fun y hy e => ?_)⟩
      · have := (sq_mem.mp q).1; omega
      · have hy' := sq_mem.mp hy
        have := h.2.2 y (2 * k) (by omega) (by omega) hy'.2.2.1 hc.1 e
        omega
    · exact ⟨h1, h2⟩
theorem c_qw_2 (hB : B ≤ 16) {G : Nat → Prop} (hp : hpOK (32 * B) (a 1) (a 3) (a 4) G) {Qs : List Nat} (hq : Ql Qs (a 9) (v 6)) (hqG : Wg B G Qs) {q0 : Int32} {Q : Option Value → xW → Prop} : ∀ (c j : Nat) (L : List Nat) (f g : Nat → Int32) (n : Int32), j + c = Qs.length → Wk (32 * B) L f g n → Wg B G L →
    (∀ f' g' n', Wk (32 * B) (insL L (Qs.drop j)) f' g' n' → Wg B G (insL L (Qs.drop j)) → Q none (wWk false B a v r f' g' n')) →
    V none 82 Q (0, 0) 78 [(0, .ref 0), (1, .int q0), (2, .int (nI j))] [.ref 13, .int (nI j)] (wWk false B a v r f g n) := by
  have hql := hqG.len hp
  intro c
  induction c with
  | zero =>
    intro j L f g n hj hW hG kk
    have e : Qs.drop j = [] := List.drop_eq_nil_of_le (by omega)
    rw [e] at kk
    have hs := hq.1
    refine V.cv rfl (c_lsizeE hs) rfl rfl ?_
    rintro _ _ ⟨rfl, rfl⟩
    refine V.brT rfl rfl (nI_le (by omega) (by omega)) ?_
    exact V.rv rfl (kk f g n hW hG)
  | succ c ih =>
    intro j L f g n hj hW hG kk
    obtain ⟨x, hx⟩ : ∃ x, Qs[j]? = some x := ⟨_, List.getElem?_eq_getElem (by omega)⟩
    have e : Qs.drop j = x :: Qs.drop (j + 1) := by
      obtain ⟨h1, h2⟩ := List.getElem?_eq_some_iff.mp hx
      rw [← h2]
      exact List.drop_eq_getElem_cons h1
    rw [e, insL_cons] at kk
    have hs := hq.1
    have hfx := hq.2 j x hx
    have hxG := hqG.2 x (List.mem_of_getElem? hx)
    have hxN := (hp x hxG).1
    refine V.cv rfl (c_lsizeE hs) rfl rfl ?_
    rintro _ _ ⟨rfl, rfl⟩
    refine V.brF rfl rfl (nI_ge (show j < Qs.length by omega) (by omega)) ?_
    refine V.run 20 rfl ?_
    refine V.cv rfl (c_lgetE hB (by exact hs) (show j < Qs.length by omega) (by omega) (by exact hfx)) rfl rfl ?_
    rintro _ _ ⟨rfl, rfl⟩
    refine V.cv rfl (c_come false hB hxN hW (hG.len hp) (hG.guard hp hxG)) rfl rfl ?_
    rintro _ _ ⟨rfl, f', g', n', rfl, hW'⟩
    refine V.run 20 rfl ?_
    rw [nI_add]
    exact ih (j + 1) _ f' g' n' (by omega) hW' (hG.add1 hxG) kk
theorem c_queueWatched (hB : B ≤ 16) {G : Nat → Prop} (hp : hpOK (32 * B) (a 1) (a 3) (a 4) G) (hwt : wtOK (32 * B) (a 0) (a 2) G) {Q0 L : List Nat} (hq : Ql Q0 (a 9) (v 6)) (hqG : Wg B G Q0) (hQL : ∀ y ∈ Q0, y ∈ L) (hW : Wk (32 * B) L (a 5) (a 6) (v 2)) (hG : Wg B G L) :
    Tot none kX4_queueWatched [.ref 0] (wC B a v r) (fun o w' => o = none ∧ ∃ fq nq f g n, w' = wWk false B (setA (setA a 2 (wtQ (a 2) L (16 * B))) 9 fq) (uV v 6 nq) r f g n ∧ Ql (Q0 ++ sq (a 0) (a 2) L (16 * B)) fq nq ∧ Wg B G (Q0 ++ sq (a 0) (a 2) L (16 * B)) ∧ Wk (32 * B) (insL L (sq (a 0) (a 2) L (16 * B))) f g n ∧ Wg B G (insL L (sq (a 0) (a 2) L (16 * B)))) := by
  have hlen := hG.len hp
  have hQT : ∀ k, 2 * k ≤ 32 * B → Wg B G (Q0 ++ sq (a 0) (a 2) L k) := by
    intro k hk
    refine ⟨List.nodup_append.mpr ⟨hqG.1, (sq_ok hwt L k hk).1, ?_⟩, fun y hy => ?_⟩
    · intro x hx y hy e
      subst e
      exact (sq_mem.mp hy).2.2.2 (hQL x hx)
    · rcases List.mem_append.mp hy with h | h
      · exact hqG.2 y h
      · have := sq_mem.mp h
        exact hwt.2.1 y (by omega) this.2.2.1
  have loop : ∀ (c k : Nat) (f : Nat → Int32) (n : Int32), k + c = 16 * B → Ql (Q0 ++ sq (a 0) (a 2) L k) f n →
      V none 82 (fun o w' => o = none ∧ ∃ fq nq f g n, w' = wWk false B (setA (setA a 2 (wtQ (a 2) L (16 * B))) 9 fq) (uV v 6 nq) r f g n ∧ Ql (Q0 ++ sq (a 0) (a 2) L (16 * B)) fq nq ∧ Wg B G (Q0 ++ sq (a 0) (a 2) L (16 * B)) ∧ Wk (32 * B) (insL L (sq (a 0) (a 2) L (16 * B))) f g n ∧ Wg B G (insL L (sq (a 0) (a 2) L (16 * B)))) (0, 0) 15 [(0, .ref 0), (1, .int (nI Q0.length)), (2, .int (nI (2 * k)))] [.ref 1, .int (nI (2 * k))] (wC B (setA (setA a 2 (wtQ (a 2) L k)) 9 f) (uV v 6 n) r) := by
    intro c
    induction c with
    | zero =>
      intro k f n hk hf
      have e : k = 16 * B := by omega
      subst e
      refine V.cv rfl c_words rfl rfl ?_
      rintro _ _ ⟨rfl, rfl⟩
      refine V.brT rfl rfl (nI_le (by omega) (by omega)) ?_
      refine V.run 20 rfl ?_
      have h := c_qw_2 (r := r) (a := setA (setA a 2 (wtQ (a 2) L (16 * B))) 9 f) (v := uV v 6 n) (q0 := nI Q0.length) hB hp hf (hQT (16 * B) (by omega)) (Q := fun o w' => o = none ∧ ∃ fq nq f g n, w' = wWk false B (setA (setA a 2 (wtQ (a 2) L (16 * B))) 9 fq) (uV v 6 nq) r f g n ∧ Ql (Q0 ++ sq (a 0) (a 2) L (16 * B)) fq nq ∧ Wg B G (Q0 ++ sq (a 0) (a 2) L (16 * B)) ∧ Wk (32 * B) (insL L (sq (a 0) (a 2) L (16 * B))) f g n ∧ Wg B G (insL L (sq (a 0) (a 2) L (16 * B)))) (sq (a 0) (a 2) L (16 * B)).length Q0.length L (a 5) (a 6) (v 2) (by rw [List.length_append]) hW hG (by
        rw [List.drop_left]
        exact fun f' g' n' h1 h2 => ⟨rfl, f, n, f', g', n', rfl, hf, hQT (16 * B) (by omega), h1, h2⟩)
      exact h
    | succ c ih =>
      intro k f n hk hf
      have hkN : 2 * k < 32 * B := by omega
      have hqt := hQT k (by omega)
      refine V.cv rfl c_words rfl rfl ?_
      rintro _ _ ⟨rfl, rfl⟩
      refine V.brF rfl rfl (nI_ge hkN (by omega)) ?_
      refine V.run 20 rfl ?_
      by_cases hc : a 2 (2 * k) = 1 ∧ 2 * k ∉ L
      · have e1 : sq (a 0) (a 2) L (k + 1) = insN (a 0) (2 * k) (sq (a 0) (a 2) L k) := by rw [sq, if_pos hc]
        have hxG := hwt.2.1 _ hkN hc.1
        refine V.cv rfl (c_isWatchedE hB hkN (y := 1) (by exact (wtQ_at (a 2) L k).trans hc.1) (Or.inr rfl)) rfl rfl ?_
        rintro _ _ ⟨rfl, rfl⟩
        refine V.brF rfl rfl (by decide) ?_
        refine V.run 20 rfl ?_
        refine V.cv rfl (c_whas0 false hB hkN (by exact hW.2.2.1 _ hkN hc.2)) rfl rfl ?_
        rintro _ _ ⟨rfl, rfl⟩
        refine V.brF rfl rfl (fun h => h i0_eq0) ?_
        refine V.run 20 rfl ?_
        refine V.cv rfl (c_setWatched hB hkN (Or.inl rfl)) rfl rfl ?_
        rintro _ _ ⟨rfl, rfl⟩
        refine V.run 20 rfl ?_
        have hcap : (Q0 ++ sq (a 0) (a 2) L k).length < 16 * B := by
          have h1 := Wg.len hp (L := 2 * k :: (Q0 ++ sq (a 0) (a 2) L k)) ⟨List.nodup_cons.mpr ⟨fun q => ?_, hqt.1⟩, fun y hy => ?_⟩
          · rw [List.length_cons] at h1; omega
          · rcases List.mem_append.mp q with h | h
            · exact hc.2 (hQL _ h)
            · have := (sq_mem.mp h).1; omega
          · rcases List.mem_cons.mp hy with rfl | h
            · exact hxG
            · exact hqt.2 y h
        refine V.cv rfl (c_addByName hB (Q0 := Q0) (T := sq (a 0) (a 2) L k) (by exact hf) hcap hkN (fun y hy => by have := (sq_mem.mp hy).1; omega) (by exact (sq_ok hwt L k (by omega)).2) (fun y hy e => by
          have hy' := sq_mem.mp hy
          have := hwt.2.2 y (2 * k) (by omega) hkN hy'.2.2.1 hc.1 e
          omega)) rfl rfl ?_
        rintro _ _ ⟨rfl, f', n', rfl, hf'⟩
        refine V.run 20 rfl ?_
        rw [nI_add]
        have ih := ih (k + 1) f' n' (by omega) (by rw [e1]; exact hf')
        rw [← wtQ_cut hc] at ih
        exact ih
      · have e1 : sq (a 0) (a 2) L (k + 1) = sq (a 0) (a 2) L k := by rw [sq, if_neg hc]
        have ih := ih (k + 1) f n (by omega) (by rw [e1]; exact hf)
        rw [← wtQ_keep hc] at ih
        by_cases h1 : a 2 (2 * k) = 1
        · have hL : 2 * k ∈ L := by
            by_cases q : 2 * k ∈ L
            · exact q
            · exact absurd ⟨h1, q⟩ hc
          refine V.cv rfl (c_isWatchedE hB hkN (y := 1) (by exact (wtQ_at (a 2) L k).trans h1) (Or.inr rfl)) rfl rfl ?_
          rintro _ _ ⟨rfl, rfl⟩
          refine V.brF rfl rfl (by decide) ?_
          refine V.run 20 rfl ?_
          refine V.cv rfl (c_whas1 false hB hkN (by exact hW.not (by omega) hL)) rfl rfl ?_
          rintro _ _ ⟨rfl, rfl⟩
          refine V.brT rfl rfl i1_ne0 ?_
          refine V.run 20 rfl ?_
          rw [nI_add]
          exact ih
        · have h0 : a 2 (2 * k) = 0 := (hwt.1 _ hkN).resolve_right h1
          refine V.cv rfl (c_isWatchedE hB hkN (y := 0) (by exact (wtQ_at (a 2) L k).trans h0) (Or.inl rfl)) rfl rfl ?_
          rintro _ _ ⟨rfl, rfl⟩
          refine V.brT rfl rfl rfl ?_
          refine V.run 20 rfl ?_
          rw [nI_add]
          exact ih
  refine eX4_queueWatched ?_
  refine V.run 20 rfl ?_
  refine V.cv rfl (c_lsizeE hq.1) rfl rfl ?_
  rintro _ _ ⟨rfl, rfl⟩
  refine V.run 20 rfl ?_
  have h := loop (16 * B) 0 (a 9) (v 6) (by omega) (by rw [sq, List.append_nil]; exact hq)
  rw [wtQ_0] at h
  exact h
theorem c_unsweepAll (hB : B ≤ 16) : Tot none kX0_unsweepAll [.ref 15] (wC B a v r) (fun o w' => o = none ∧ ∃ u, w' = wC B (setA a 11 u) v r ∧ ∀ b, b < B → u b = if a 10 b = -1 then 0 else 1) := by
  have loop : ∀ (c i : Nat) (u : Nat → Int32), i + c = B → (∀ b, b < i → u b = if a 10 b = -1 then 0 else 1) → V none 15 (fun o w' => o = none ∧ ∃ u, w' = wC B (setA a 11 u) v r ∧ ∀ b, b < B → u b = if a 10 b = -1 then 0 else 1) (0, 0) 8 [(0, .ref 15), (1, .int (nI i))] [.int (nI B), .int (nI i)] (wC B (setA a 11 u) v r) := by
    intro c
    induction c with
    | zero =>
      intro i u hi hu
      refine V.brT rfl rfl (nI_le (by omega) (by omega)) ?_
      exact V.rv rfl ⟨rfl, u, rfl, fun b hb => hu b (by omega)⟩
    | succ c ih =>
      intro i u hi hu
      have hib : i < B := by omega
      have key : ∀ z : Int32, (z = if a 10 i = -1 then 0 else 1) → ∀ b, b < i + 1 → upd u i z b = if a 10 b = -1 then 0 else 1 := by
        intro z hz b hb
        by_cases q : b = i
        · subst q; rw [upd_s]; exact hz
        · rw [upd_n q]; exact hu b (by omega)
      refine V.brF rfl rfl (nI_ge hib (by omega)) ?_
      refine V.run 20 rfl ?_
      refine V.brF rfl rfl (nI_ge hib (by omega)) ?_
      refine V.run 20 rfl ?_
      refine V.iald rfl rfl rfl hib (by omega) ?_
      refine V.run 20 rfl ?_
      refine V.br rfl rfl (fun h => ?_) (fun h => ?_)
      · refine V.run 20 rfl ?_
        refine V.zast (w' := wC B (setA a 11 (upd u i (nI 0))) v r) rfl rfl rfl hib (by omega) (Or.inl rfl) rfl ?_
        refine V.run 20 rfl ?_
        rw [nI_add]
        exact ih (i + 1) _ (by omega) (key (nI 0) (by rw [if_pos (show a 10 i = -1 from h)]; rfl))
      · refine V.run 20 rfl ?_
        refine V.zast (w' := wC B (setA a 11 (upd u i (nI 1))) v r) rfl rfl rfl hib (by omega) (Or.inr rfl) rfl ?_
        refine V.run 20 rfl ?_
        rw [nI_add]
        exact ih (i + 1) _ (by omega) (key (nI 1) (by rw [if_neg (show ¬ a 10 i = -1 from h)]; rfl))
  refine eX0_unsweepAll ?_
  refine V.run 20 rfl ?_
  exact loop B 0 (a 11) (by omega) (fun b hb => absurd hb (Nat.not_lt_zero b))
end CQ
end
section
theorem fol_pre (T : Nat → List Nat) : ∀ (n i : Nat) (L : List Nat), ∃ M, fol T n i L = L ++ M
  | 0, _, L => ⟨[], by simp [fol]⟩
  | n + 1, i, L => by
    unfold fol
    split
    · obtain ⟨M1, h1⟩ := insL_pre (T (L.getD i 0)) L
      obtain ⟨M2, h2⟩ := fol_pre T n (i + 1) (insL L (T (L.getD i 0)))
      exact ⟨M1 ++ M2, by rw [h2, h1, List.append_assoc]⟩
    · exact ⟨[], by simp⟩
theorem fol_sub {T : Nat → List Nat} {n i : Nat} {L : List Nat} {y : Nat} (h : y ∈ L) : y ∈ fol T n i L := by
  obtain ⟨M, hM⟩ := fol_pre T n i L
  rw [hM]
  exact List.mem_append_left _ h
theorem hpOK_lo {N : Nat} {fd kd vl : Nat → Int32} {G : Nat → Prop} (h : hpOK N fd kd vl G) (L : List Nat) : hpOK N fd (loK fd kd vl L) (loV fd kd vl L) G := by
  intro x hx
  obtain ⟨h1, h2, m, h3, h4, h5, h6⟩ := h x hx
  refine ⟨h1, h2, m, h3, h4, h5, fun j hj => ?_⟩
  unfold loK loV cfK cfV
  cases hc : (inF fd L (x + 1 + j) && cutb kd vl L (x + 1 + j)) with
  | true => exact Or.inl rfl
  | false => exact h6 j hj
/-! marking, purely -/
def mL1 (B : Nat) (fd kd vl rt : Nat → Int32) (Qs : List Nat) : List Nat := fol (tgs fd kd vl) (16 * B + 1) 0 (heldL rt Qs)
def mT (B : Nat) (nm fd wt kd vl rt : Nat → Int32) (Qs : List Nat) : List Nat := sq nm wt (mL1 B fd kd vl rt Qs) (16 * B)
def mW (B : Nat) (fd wt kd vl rt : Nat → Int32) (Qs : List Nat) : Nat → Int32 := wtQ wt (mL1 B fd kd vl rt Qs) (16 * B)
def mK1 (B : Nat) (fd kd vl rt : Nat → Int32) (Qs : List Nat) : Nat → Int32 := loK fd kd vl (mL1 B fd kd vl rt Qs)
def mV1 (B : Nat) (fd kd vl rt : Nat → Int32) (Qs : List Nat) : Nat → Int32 := loV fd kd vl (mL1 B fd kd vl rt Qs)
def mL3 (B : Nat) (nm fd wt kd vl rt : Nat → Int32) (Qs : List Nat) : List Nat := fol (tgs fd (mK1 B fd kd vl rt Qs) (mV1 B fd kd vl rt Qs)) (16 * B + 1 - (mL1 B fd kd vl rt Qs).length) (mL1 B fd kd vl rt Qs).length (insL (mL1 B fd kd vl rt Qs) (mT B nm fd wt kd vl rt Qs))
def mK2 (B : Nat) (nm fd wt kd vl rt : Nat → Int32) (Qs : List Nat) : Nat → Int32 := loK fd (mK1 B fd kd vl rt Qs) (mV1 B fd kd vl rt Qs) (mL3 B nm fd wt kd vl rt Qs)
def mV2 (B : Nat) (nm fd wt kd vl rt : Nat → Int32) (Qs : List Nat) : Nat → Int32 := loV fd (mK1 B fd kd vl rt Qs) (mV1 B fd kd vl rt Qs) (mL3 B nm fd wt kd vl rt Qs)
section CM
variable {B : Nat} {a : Nat → Nat → Int32} {v : Nat → Int32} {r : xW}
theorem c_markAll (hB : B ≤ 16) {G : Nat → Prop} (hp : hpOK (32 * B) (a 1) (a 3) (a 4) G) (hr : rtOK (a 12) G) (hwt : wtOK (32 * B) (a 0) (a 2) G) {Qs : List Nat} (hq : Ql Qs (a 9) (v 6)) (hqG : Wg B G Qs) :
    Tot none kX4_markAll [.ref 0] (wC B a v r) (fun o w' => o = none ∧ ∃ fq nq f g n u,
      w' = wC B (setA (setA (setA (setA (setA (setA (setA a 2 (mW B (a 1) (a 2) (a 3) (a 4) (a 12) Qs)) 3 (mK2 B (a 0) (a 1) (a 2) (a 3) (a 4) (a 12) Qs)) 4 (mV2 B (a 0) (a 1) (a 2) (a 3) (a 4) (a 12) Qs)) 5 f) 6 g) 9 fq) 11 u) (uV (uV (uV (uV v 1 (v 1 + nI 1)) 2 n) 3 n) 6 nq) r ∧
      Ql (Qs ++ mT B (a 0) (a 1) (a 2) (a 3) (a 4) (a 12) Qs) fq nq ∧ Wg B G (Qs ++ mT B (a 0) (a 1) (a 2) (a 3) (a 4) (a 12) Qs) ∧ Wk (32 * B) (mL3 B (a 0) (a 1) (a 2) (a 3) (a 4) (a 12) Qs) f g n ∧ Wg B G (mL3 B (a 0) (a 1) (a 2) (a 3) (a 4) (a 12) Qs) ∧ ∀ b, b < B → u b = if a 10 b = -1 then 0 else 1) := by
  refine eX4_markAll ?_
  refine V.run 20 rfl ?_
  refine V.cv rfl (c_clear false hB) rfl rfl ?_
  rintro _ _ ⟨rfl, g0, rfl, hg0⟩
  refine V.run 20 rfl ?_
  refine V.cv rfl (c_comeToHeld false hB (a := setA a 6 g0) hp hr hq hqG (Wk.nil hg0)) rfl rfl ?_
  rintro _ _ ⟨rfl, f1, g1, n1, rfl, hW1, hG1⟩
  refine V.run 20 rfl ?_
  refine V.cv rfl (c_spread false hB (L := heldL (a 12) Qs) (i := 0) (a := setA (setA (setA a 6 g0) 5 f1) 6 g1) hp hW1 hG1 rfl (Nat.zero_le _)) rfl rfl ?_
  rintro _ _ ⟨rfl, f2, g2, n2, rfl, hW2, hG2⟩
  have hW2 : Wk (32 * B) (mL1 B (a 1) (a 3) (a 4) (a 12) Qs) f2 g2 n2 := hW2
  have hG2 : Wg B G (mL1 B (a 1) (a 3) (a 4) (a 12) Qs) := hG2
  refine V.run 20 rfl ?_
  refine V.cv rfl (c_cutWeakFields hB (G := G) (L := mL1 B (a 1) (a 3) (a 4) (a 12) Qs) (by exact hp) (by exact hW2) hG2) rfl rfl ?_
  rintro _ _ ⟨rfl, rfl⟩
  refine V.run 20 rfl ?_
  have hp1 := hpOK_lo hp (mL1 B (a 1) (a 3) (a 4) (a 12) Qs)
  refine V.cv rfl (c_queueWatched hB (G := G) (Q0 := Qs) (L := mL1 B (a 1) (a 3) (a 4) (a 12) Qs) (by exact hp1) (by exact hwt) (by exact hq) hqG (fun y hy => fol_sub (insL_mem.mpr (Or.inr hy))) (by exact hW2) hG2) rfl rfl ?_
  rintro _ _ ⟨rfl, fq, nq, f3, g3, n3, rfl, hq3, hqG3, hW3, hG3⟩
  refine V.run 20 rfl ?_
  refine V.cv rfl (c_spread false hB (G := G) (L := insL (mL1 B (a 1) (a 3) (a 4) (a 12) Qs) (mT B (a 0) (a 1) (a 2) (a 3) (a 4) (a 12) Qs)) (i := (mL1 B (a 1) (a 3) (a 4) (a 12) Qs).length) (by exact hp1) (by exact hW3) hG3 (by exact hW2.1) (by
    obtain ⟨M, hM⟩ := insL_pre (mT B (a 0) (a 1) (a 2) (a 3) (a 4) (a 12) Qs) (mL1 B (a 1) (a 3) (a 4) (a 12) Qs)
    rw [hM, List.length_append]
    omega)) rfl rfl ?_
  rintro _ _ ⟨rfl, f4, g4, n4, rfl, hW4, hG4⟩
  have hW4 : Wk (32 * B) (mL3 B (a 0) (a 1) (a 2) (a 3) (a 4) (a 12) Qs) f4 g4 n4 := hW4
  have hG4 : Wg B G (mL3 B (a 0) (a 1) (a 2) (a 3) (a 4) (a 12) Qs) := hG4
  refine V.run 20 rfl ?_
  refine V.cv rfl (c_cutWeakFields hB (G := G) (L := mL3 B (a 0) (a 1) (a 2) (a 3) (a 4) (a 12) Qs) (by exact hp1) (by exact hW4) hG4) rfl rfl ?_
  rintro _ _ ⟨rfl, rfl⟩
  refine V.run 20 rfl ?_
  refine V.cv rfl (c_unsweepAll hB) rfl rfl ?_
  rintro _ _ ⟨rfl, u, rfl, hu⟩
  refine V.run 20 rfl ?_
  refine V.puti rfl rfl rfl ?_
  exact V.rv rfl ⟨rfl, fq, nq, f4, g4, n4, u, rfl, hq3, hqG3, hW4, hG4, hu⟩
end CM
end
section
/-! BLOCKS, purely: names, watched, classes, unswept, how often it was swept -/
abbrev KS : Type := (Nat → Int32) × (Nat → Int32) × (Nat → Int32) × (Nat → Int32) × Int32
def swN (mkd : Nat → Bool) (nm : Nat → Int32) (b : Nat) : Nat → Int32 := fun w => bif Nat.beq (w / 32) b && !mkd w then -1 else nm w
def swW (mkd : Nat → Bool) (wt : Nat → Int32) (b : Nat) : Nat → Int32 := fun w => bif Nat.beq (w / 32) b && !mkd w then 0 else wt w
/-- a block without an object -/
def blkE (nm : Nat → Int32) (b : Nat) : Bool := (List.range 32).all (fun i => decide (nm (b * 32 + i) = -1))
/-- a block is swept -/
def sw1 (mkd : Nat → Bool) (K : KS) (b : Nat) : KS := (swN mkd K.1 b, swW mkd K.2.1 b, (if blkE (swN mkd K.1 b) b = true then upd K.2.2.1 b (-1) else K.2.2.1), upd K.2.2.2.1 b 0, K.2.2.2.2 + nI 1)
def bkOK (B : Nat) (mkd : Nat → Bool) (K : KS) : Prop :=
  (∀ b, b < B → K.2.2.1 b = -1 ∨ ∃ c, c < 4 ∧ K.2.2.1 b = nI c) ∧
  (∀ b, b < B → K.2.2.2.1 b = 0 ∨ K.2.2.2.1 b = 1 ∧ K.2.2.1 b ≠ -1) ∧
  (∀ w, w < 32 * B → K.1 w ≠ -1 → ∃ c, c < 4 ∧ K.2.2.1 (w / 32) = nI c ∧ w % 32 % cwd c = 0) ∧
  (∀ w, w < 32 * B → K.2.1 w = 0 ∨ K.2.1 w = 1 ∧ K.1 w ≠ -1) ∧
  (∀ w, w < 32 * B → mkd w = true → K.1 w ≠ -1)
theorem blkE_iff {nm : Nat → Int32} {b : Nat} : blkE nm b = true ↔ ∀ w, w / 32 = b → nm w = -1 := by
  unfold blkE
  rw [List.all_eq_true]
  constructor
  · intro h w hw
    have h1 := h (w % 32) (List.mem_range.mpr (Nat.mod_lt _ (by omega)))
    rw [decide_eq_true_eq] at h1
    rw [← h1]
    congr 1
    omega
  · intro h i hi
    rw [List.mem_range] at hi
    rw [decide_eq_true_eq]
    exact h _ (by omega)
theorem swN_in {mkd : Nat → Bool} {nm : Nat → Int32} {b w : Nat} (h : w / 32 = b) (hm : mkd w = false) : swN mkd nm b w = -1 := by simp [swN, h, hm]
theorem swN_out {mkd : Nat → Bool} {nm : Nat → Int32} {b w : Nat} (h : w / 32 ≠ b ∨ mkd w = true) : swN mkd nm b w = nm w := by
  rcases h with h | h
  · have e : Nat.beq (w / 32) b = false := by rw [Bool.eq_false_iff]; exact fun q => h (Nat.eq_of_beq_eq_true q)
    simp [swN, e]
  · simp [swN, h]
theorem swW_in {mkd : Nat → Bool} {wt : Nat → Int32} {b w : Nat} (h : w / 32 = b) (hm : mkd w = false) : swW mkd wt b w = 0 := by simp [swW, h, hm]
theorem swW_out {mkd : Nat → Bool} {wt : Nat → Int32} {b w : Nat} (h : w / 32 ≠ b ∨ mkd w = true) : swW mkd wt b w = wt w := by
  rcases h with h | h
  · have e : Nat.beq (w / 32) b = false := by rw [Bool.eq_false_iff]; exact fun q => h (Nat.eq_of_beq_eq_true q)
    simp [swW, e]
  · simp [swW, h]
theorem sw1_ok {B : Nat} {mkd : Nat → Bool} {K : KS} (h : bkOK B mkd K) {b : Nat} (hb : b < B) : bkOK B mkd (sw1 mkd K b) := by
  obtain ⟨h1, h2, h3, h4, h5⟩ := h
  have io : ∀ w, (w / 32 = b ∧ mkd w = false) ∨ (w / 32 ≠ b ∨ mkd w = true) := by
    intro w
    by_cases q : w / 32 = b
    · cases hm : mkd w
      · exact Or.inl ⟨q, rfl⟩
      · exact Or.inr (Or.inr rfl)
    · exact Or.inr (Or.inl q)
  have hcl : ∀ b', b' < B → (sw1 mkd K b).2.2.1 b' = K.2.2.1 b' ∨ ((sw1 mkd K b).2.2.1 b' = -1 ∧ b' = b ∧ blkE (swN mkd K.1 b) b = true) := by
    intro b' _
    show (if blkE (swN mkd K.1 b) b = true then upd K.2.2.1 b (-1) else K.2.2.1) b' = _ ∨ _
    split
    · rename_i he
      by_cases q : b' = b
      · subst q
        exact Or.inr ⟨by
          show (if blkE (swN mkd K.1 b') b' = true then upd K.2.2.1 b' (-1) else K.2.2.1) b' = -1
          rw [if_pos he, upd_s], rfl, he⟩
      · exact Or.inl (upd_n q)
    · exact Or.inl rfl
  refine ⟨fun b' hb' => ?_, fun b' hb' => ?_, fun w hw hn => ?_, fun w hw => ?_, fun w hw hm => ?_⟩
  · rcases hcl b' hb' with e | e
    · rw [e]; exact h1 b' hb'
    · exact Or.inl e.1
  · show upd K.2.2.2.1 b 0 b' = 0 ∨ upd K.2.2.2.1 b 0 b' = 1 ∧ _
    by_cases q : b' = b
    · subst q; exact Or.inl upd_s
    · rw [upd_n q]
      rcases hcl b' hb' with e | e
      · rw [e]; exact h2 b' hb'
      · exact absurd e.2.1 q
  · have hn' : swN mkd K.1 b w ≠ -1 := hn
    rcases io w with ⟨q, hm⟩ | q
    · exact absurd (swN_in q hm) hn'
    · rw [swN_out q] at hn'
      obtain ⟨c, hc, e1, e2⟩ := h3 w hw hn'
      refine ⟨c, hc, ?_, e2⟩
      rcases hcl (w / 32) (by omega) with e | e
      · rw [e]; exact e1
      · exact absurd (blkE_iff.mp e.2.2 w e.2.1) hn
  · show swW mkd K.2.1 b w = 0 ∨ swW mkd K.2.1 b w = 1 ∧ swN mkd K.1 b w ≠ -1
    rcases io w with ⟨q, hm⟩ | q
    · exact Or.inl (swW_in q hm)
    · rw [swW_out q, swN_out q]; exact h4 w hw
  · show swN mkd K.1 b w ≠ -1
    rw [swN_out (Or.inr hm)]
    exact h5 w hw hm
/-- the first number from i on, of c, with p -/
def ff (p : Nat → Bool) : Nat → Nat → Option Nat
  | 0, _ => none
  | c + 1, i => bif p i then some i else ff p c (i + 1)
def oA (o : Option Nat) : Int32 := match o with
  | none => -1
  | some x => nI x
/-- the first empty cell of a block of class c -/
def ecB (nm : Nat → Int32) (b c : Nat) : Option Nat := (ff (fun i => decide (nm (b * 32 + i * cwd c) = -1)) (cpb c) 0).map (fun i => b * 32 + i * cwd c)
/-- the first empty cell in swept blocks of class c: from block b on, n of them -/
def ecA (K : KS) (c : Nat) : Nat → Nat → Option Nat
  | 0, _ => none
  | n + 1, b => if K.2.2.1 b = nI c ∧ K.2.2.2.1 b = 0 then (match ecB K.1 b c with
    | some x => some x
    | none => ecA K c n (b + 1)) else ecA K c n (b + 1)
/-- unswept blocks of class c are swept till one has an empty cell or is free -/
def cOwn (mkd : Nat → Bool) (c : Nat) : Nat → Nat → KS → KS
  | 0, _, K => K
  | n + 1, b, K => if K.2.2.1 b = nI c ∧ K.2.2.2.1 b = 1 then
      (if (sw1 mkd K b).2.2.1 b = -1 ∨ ecB (sw1 mkd K b).1 b c ≠ none then sw1 mkd K b else cOwn mkd c n (b + 1) (sw1 mkd K b))
    else cOwn mkd c n (b + 1) K
/-- unswept blocks of other classes are swept till one is free -/
def cOth (mkd : Nat → Bool) (c : Nat) : Nat → Nat → KS → KS × Option Nat
  | 0, _, K => (K, none)
  | n + 1, b, K => if K.2.2.1 b ≠ nI c ∧ K.2.2.2.1 b = 1 then
      (if (sw1 mkd K b).2.2.1 b = -1 then (sw1 mkd K b, some b) else cOth mkd c n (b + 1) (sw1 mkd K b))
    else cOth mkd c n (b + 1) K
def fFree (K : KS) (B : Nat) : Option Nat := ff (fun b => decide (K.2.2.1 b = -1)) B 0
def opn (K : KS) (b c : Nat) : KS := (K.1, K.2.1, upd K.2.2.1 b (nI c), K.2.2.2)
/-- a cell for an object of class c, without marking -/
def fCell (mkd : Nat → Bool) (B c : Nat) (K : KS) : KS × Option Nat :=
  match ecA K c B 0 with
  | some x => (K, some x)
  | none => match ecA (cOwn mkd c B 0 K) c B 0 with
    | some x => (cOwn mkd c B 0 K, some x)
    | none => match fFree (cOwn mkd c B 0 K) B with
      | some b => (opn (cOwn mkd c B 0 K) b c, some (b * 32))
      | none => match cOth mkd c B 0 (cOwn mkd c B 0 K) with
        | (K2, some b) => (opn K2 b c, some (b * 32))
        | (K2, none) => (K2, none)
theorem ff_some {p : Nat → Bool} {x : Nat} : ∀ {c i : Nat}, ff p c i = some x → i ≤ x ∧ x < i + c ∧ p x = true ∧ ∀ j, i ≤ j → j < x → p j = false
  | 0, _, h => by simp [ff] at h
  | c + 1, i, h => by
    unfold ff at h
    cases hp : p i with
    | true =>
      rw [hp, cond_true] at h
      cases h
      exact ⟨Nat.le_refl _, by omega, hp, fun j h1 h2 => by omega⟩
    | false =>
      rw [hp, cond_false] at h
      obtain ⟨h1, h2, h3, h4⟩ := ff_some h
      refine ⟨by omega, by omega, h3, fun j h5 h6 => ?_⟩
      by_cases q : j = i
      · subst q; exact hp
      · exact h4 j (by omega) h6
theorem ff_none {p : Nat → Bool} : ∀ {c i : Nat}, ff p c i = none ↔ ∀ j, i ≤ j → j < i + c → p j = false
  | 0, i => by
    constructor
    · intro _ j h1 h2; omega
    · intro _; rfl
  | c + 1, i => by
    unfold ff
    cases hp : p i with
    | true =>
      rw [cond_true]
      constructor
      · intro h; cases h
      · intro h; rw [h i (Nat.le_refl _) (by omega)] at hp; cases hp
    | false =>
      rw [cond_false, ff_none]
      constructor
      · intro h j h1 h2
        by_cases q : j = i
        · subst q; exact hp
        · exact h j (by omega) (by omega)
      · intro h j h1 h2
        exact h j (by omega) (by omega)
theorem ff_congr {p q : Nat → Bool} : ∀ {c i : Nat}, (∀ j, i ≤ j → j < i + c → p j = q j) → ff p c i = ff q c i
  | 0, _, _ => rfl
  | c + 1, i, h => by
    unfold ff
    rw [h i (Nat.le_refl _) (by omega), ff_congr (fun j h1 h2 => h j (by omega) (by omega))]
theorem ecB_lt {nm : Nat → Int32} {b c x : Nat} (hc : c < 4) (h : ecB nm b c = some x) : x / 32 = b ∧ x % 32 % cwd c = 0 ∧ nm x = -1 := by
  unfold ecB at h
  obtain ⟨i, hi, rfl⟩ := Option.map_eq_some_iff.mp h
  obtain ⟨-, h2, h3, -⟩ := ff_some hi
  have h4 := cw_in hc (show i < cpb c by omega)
  have h5 := cwd_pos c
  refine ⟨by omega, ?_, of_decide_eq_true h3⟩
  rw [show (b * 32 + i * cwd c) % 32 = i * cwd c by omega]
  exact Nat.mul_mod_left i (cwd c)
/-- a word of a block at a cell's beginning -/
theorem cell_of {w c : Nat} (hc : c < 4) (h : w % 32 % cwd c = 0) : ∃ i, i < cpb c ∧ w = w / 32 * 32 + i * cwd c := by
  have h5 := cwd_pos c
  refine ⟨w % 32 / cwd c, ?_, ?_⟩
  · rw [Nat.div_lt_iff_lt_mul (by omega), cpw c hc]
    exact Nat.mod_lt _ (by omega)
  · have h6 := Nat.div_add_mod (w % 32) (cwd c)
    rw [h, Nat.add_zero, Nat.mul_comm] at h6
    rw [h6]
    omega
end
section
/-! the class's blocks hold K -/
def repK (B : Nat) (a : Nat → Nat → Int32) (v : Nat → Int32) (K : KS) : Prop := (∀ w, w < 32 * B → a 0 w = K.1 w) ∧ (∀ w, w < 32 * B → a 2 w = K.2.1 w) ∧ (∀ b, b < B → a 10 b = K.2.2.1 b) ∧ (∀ b, b < B → a 11 b = K.2.2.2.1 b) ∧ v 7 = K.2.2.2.2
/-- nothing but names, fields, watched, classes, unswept has changed; what is left has its fields -/
def frK (B : Nat) (a a' : Nat → Nat → Int32) (v v' : Nat → Int32) : Prop := (∀ i, i ≠ 0 → i ≠ 1 → i ≠ 2 → i ≠ 10 → i ≠ 11 → a' i = a i) ∧ (∀ i, i ≠ 7 → v' i = v i) ∧ ∀ w, w < 32 * B → a' 0 w ≠ -1 → a' 1 w = a 1 w ∧ a' 0 w = a 0 w
theorem frK.rf (B : Nat) (a : Nat → Nat → Int32) (v : Nat → Int32) : frK B a a v v := ⟨fun _ _ _ _ _ _ => rfl, fun _ _ => rfl, fun _ _ _ => ⟨rfl, rfl⟩⟩
theorem frK.tr {B : Nat} {a a' a'' : Nat → Nat → Int32} {v v' v'' : Nat → Int32} (h1 : frK B a a' v v') (h2 : frK B a' a'' v' v'') : frK B a a'' v v'' :=
  ⟨fun i p1 p2 p3 p4 p5 => (h2.1 i p1 p2 p3 p4 p5).trans (h1.1 i p1 p2 p3 p4 p5), fun i p => (h2.2.1 i p).trans (h1.2.1 i p), fun w hw hn => by
    obtain ⟨e1, e2⟩ := h2.2.2 w hw hn
    obtain ⟨e3, e4⟩ := h1.2.2 w hw (by rw [← e2]; exact hn)
    exact ⟨e1.trans e3, e2.trans e4⟩⟩
/-- which words are marked, by the ranks -/
def mkB (g : Nat → Int32) : Nat → Bool := fun w => !decide (g w = -1)
section CB
variable {B : Nat} {a : Nat → Nat → Int32} {v : Nat → Int32} {r : xW}
theorem c_classOfE (hB : B ≤ 16) {b : Nat} (hb : b < B) {y : Int32} (hy : a 10 b = y) : Tot none kX0_classOf [.ref 15, .int (nI b)] (wC B a v r) (rI y (wC B a v r)) := hy ▸ c_classOf hB hb
theorem c_isUnsweptE (hB : B ≤ 16) {b : Nat} (hb : b < B) {y : Int32} (hy : a 11 b = y) (h01 : y = 0 ∨ y = 1) : Tot none kX0_isUnswept [.ref 15, .int (nI b)] (wC B a v r) (rI y (wC B a v r)) := by
  subst hy
  exact c_isUnswept hB hb h01
theorem c_clean (hB : B ≤ 16) {K : KS} (hK : bkOK B (mkB (a 6)) K) (hr : repK B a v K) {b : Nat} (hb : b < B) (hu : K.2.2.2.1 b = 1) :
    Tot none kX0_clean [.ref 15, .int (nI b)] (wC B a v r) (fun o w' => o = none ∧ ∃ a' v', w' = wC B a' v' r ∧ frK B a a' v v' ∧ repK B a' v' (sw1 (mkB (a 6)) K b)) := by
  obtain ⟨r1, r2, r3, r4, r5⟩ := hr
  obtain ⟨k1, k2, k3, k4, k5⟩ := hK
  obtain ⟨c, hc, hcl⟩ : ∃ c, c < 4 ∧ K.2.2.1 b = nI c := by
    rcases k1 b hb with h | h
    · rcases k2 b hb with q | q
      · rw [hu] at q; exact absurd q (by decide)
      · exact absurd h q.2
    · exact h
  have h10 : a 10 b = nI c := (r3 b hb).trans hcl
  have h11 : a 11 b = 1 := (r4 b hb).trans hu
  -- what the cells that were looked at have become
  have fin : ∀ (aa : Nat → Nat → Int32) (n : Nat), n = cn (fun i => mkB (a 6) (b * 32 + i * cwd c)) (cpb c) → (∀ i, i ≠ 0 → i ≠ 1 → i ≠ 2 → aa i = a i) →
      (∀ w, w < 32 * B → (((∃ i, i < cpb c ∧ w = b * 32 + i * cwd c) ∧ mkB (a 6) w = false) → aa 0 w = -1 ∧ aa 2 w = 0) ∧ (¬ ((∃ i, i < cpb c ∧ w = b * 32 + i * cwd c) ∧ mkB (a 6) w = false) → aa 0 w = a 0 w ∧ aa 1 w = a 1 w ∧ aa 2 w = a 2 w)) →
      V none 16 (fun o w' => o = none ∧ ∃ a' v', w' = wC B a' v' r ∧ frK B a a' v v' ∧ repK B a' v' (sw1 (mkB (a 6)) K b)) (0, 0) 68 [(0, .ref 15), (1, .int (nI b)), (2, .int (nI n))] [] (wC B aa v r) := by
    intro aa n hn hfr hw
    have hin : ∀ w, w < 32 * B → w / 32 = b → mkB (a 6) w = false → aa 0 w = -1 ∧ aa 2 w = 0 := by
      intro w hwB hwb hm
      by_cases q : ∃ i, i < cpb c ∧ w = b * 32 + i * cwd c
      · exact (hw w hwB).1 ⟨q, hm⟩
      · have hnm : K.1 w = -1 := by
          by_cases q2 : K.1 w = -1
          · exact q2
          · obtain ⟨c', hc', e1, e2⟩ := k3 w hwB q2
            rw [hwb, hcl] at e1
            have : c' = c := nI_inj (by omega) (by omega) e1.symm
            subst this
            obtain ⟨i, hi, hwi⟩ := cell_of hc' e2
            rw [hwb] at hwi
            exact absurd ⟨i, hi, hwi⟩ q
        obtain ⟨e1, -, e2⟩ := (hw w hwB).2 (fun h => q h.1)
        rw [e1, e2, r1 w hwB, r2 w hwB, hnm]
        refine ⟨rfl, ?_⟩
        rcases k4 w hwB with h | h
        · exact h
        · exact absurd hnm h.2
    have hout : ∀ w, w < 32 * B → (w / 32 ≠ b ∨ mkB (a 6) w = true) → aa 0 w = a 0 w ∧ aa 1 w = a 1 w ∧ aa 2 w = a 2 w := by
      intro w hwB h
      refine (hw w hwB).2 ?_
      rintro ⟨⟨i, hi, rfl⟩, hm⟩
      have := cw_in hc hi
      have := cwd_pos c
      rcases h with h | h
      · omega
      · rw [hm] at h; cases h
    have io : ∀ w, (w / 32 = b ∧ mkB (a 6) w = false) ∨ (w / 32 ≠ b ∨ mkB (a 6) w = true) := by
      intro w
      by_cases q : w / 32 = b
      · cases hm : mkB (a 6) w
        · exact Or.inl ⟨q, rfl⟩
        · exact Or.inr (Or.inr rfl)
      · exact Or.inr (Or.inl q)
    have hN : ∀ w, w < 32 * B → aa 0 w = swN (mkB (a 6)) K.1 b w := by
      intro w hwB
      rcases io w with ⟨q, hm⟩ | q
      · rw [swN_in q hm]; exact (hin w hwB q hm).1
      · rw [swN_out q, (hout w hwB q).1]; exact r1 w hwB
    have hWt : ∀ w, w < 32 * B → aa 2 w = swW (mkB (a 6)) K.2.1 b w := by
      intro w hwB
      rcases io w with ⟨q, hm⟩ | q
      · rw [swW_in q hm]; exact (hin w hwB q hm).2
      · rw [swW_out q, (hout w hwB q).2.2]; exact r2 w hwB
    have hF : ∀ w, w < 32 * B → aa 0 w ≠ -1 → aa 1 w = a 1 w ∧ aa 0 w = a 0 w := by
      intro w hwB hne
      rcases io w with ⟨q, hm⟩ | q
      · exact absurd (hin w hwB q hm).1 hne
      · exact ⟨(hout w hwB q).2.1, (hout w hwB q).1⟩
    have hkept : n = 0 ↔ blkE (swN (mkB (a 6)) K.1 b) b = true := by
      rw [blkE_iff, hn, cn_zero]
      constructor
      · intro h w hwb
        rcases io w with ⟨q, hm⟩ | q
        · exact swN_in q hm
        · have hm : mkB (a 6) w = true := q.resolve_left (fun z => z hwb)
          have hwB : w < 32 * B := by omega
          obtain ⟨c', hc', e1, e2⟩ := k3 w hwB (k5 w hwB hm)
          rw [hwb, hcl] at e1
          have : c' = c := nI_inj (by omega) (by omega) e1.symm
          subst this
          obtain ⟨i, hi, hwi⟩ := cell_of hc' e2
          rw [hwb] at hwi
          have h1 := h i hi
          rw [← hwi, hm] at h1
          cases h1
      · intro h i hi
        cases hm : mkB (a 6) (b * 32 + i * cwd c) with
        | false => rfl
        | true =>
          exfalso
          have := cw_in hc hi
          have := cwd_pos c
          have h1 := h (b * 32 + i * cwd c) (by omega)
          rw [swN_out (Or.inr hm)] at h1
          exact k5 _ (by omega) hm h1
    have h10' : aa 10 = a 10 := hfr 10 (by omega) (by omega) (by omega)
    have h11' : aa 11 = a 11 := hfr 11 (by omega) (by omega) (by omega)
    refine V.run 20 rfl ?_
    refine V.zast (w' := wC B (uA aa 11 b (nI 0)) v r) rfl rfl rfl hb (by omega) (Or.inl rfl) rfl ?_
    refine V.run 20 rfl ?_
    refine V.puti (w' := wC B (uA aa 11 b (nI 0)) (uV v 7 (v 7 + nI 1)) r) rfl rfl rfl ?_
    refine V.run 20 rfl ?_
    have hus : ∀ b', b' < B → upd (aa 11) b (nI 0) b' = upd K.2.2.2.1 b 0 b' := by
      intro b' hb'
      by_cases q : b' = b
      · subst q; rw [upd_s, upd_s]; rfl
      · rw [upd_n q, upd_n q, h11']; exact r4 b' hb'
    have hv : ∀ i, i ≠ 7 → uV v 7 (v 7 + nI 1) i = v i := by
      intro i hi
      have : Nat.beq i 7 = false := by rw [Bool.eq_false_iff]; exact fun q => hi (Nat.eq_of_beq_eq_true q)
      simp [uV, this]
    have huA : ∀ (A : Nat → Nat → Int32) (q j : Nat) (x : Int32) (i : Nat), i ≠ q → uA A q j x i = A i := by
      intro A q j x i hi
      have : Nat.beq i q = false := by rw [Bool.eq_false_iff]; exact fun z => hi (Nat.eq_of_beq_eq_true z)
      simp [uA, this]
    by_cases hz : n = 0
    · subst hz
      refine V.brF rfl rfl (fun h => h i0_eq0) ?_
      refine V.run 20 rfl ?_
      refine V.iast (w' := wC B (uA (uA aa 11 b (nI 0)) 10 b (-1)) (uV v 7 (v 7 + nI 1)) r) rfl rfl rfl hb (by omega) rfl ?_
      refine V.rv rfl ⟨rfl, _, _, rfl, ⟨fun i p1 p2 p3 p4 p5 => ?_, hv, hF⟩, hN, hWt, fun b' hb' => ?_, hus, ?_⟩
      · rw [huA _ _ _ _ _ p4, huA _ _ _ _ _ p5]; exact hfr i p1 p2 p3
      · show upd (aa 10) b (-1) b' = (if blkE (swN (mkB (a 6)) K.1 b) b = true then upd K.2.2.1 b (-1) else K.2.2.1) b'
        rw [if_pos (hkept.mp rfl)]
        by_cases q : b' = b
        · subst q; rw [upd_s, upd_s]
        · rw [upd_n q, upd_n q, h10']; exact r3 b' hb'
      · show v 7 + nI 1 = K.2.2.2.2 + nI 1
        rw [r5]
    · have hle : n ≤ 16 := by rw [hn]; exact Nat.le_trans (cn_le _ _) (cpb_le c hc)
      refine V.brT rfl rfl (nI_ne0 (by omega) (by omega)) ?_
      refine V.rv rfl ⟨rfl, _, _, rfl, ⟨fun i p1 p2 p3 p4 p5 => ?_, hv, hF⟩, hN, hWt, fun b' hb' => ?_, hus, ?_⟩
      · rw [huA _ _ _ _ _ p5]; exact hfr i p1 p2 p3
      · show aa 10 b' = (if blkE (swN (mkB (a 6)) K.1 b) b = true then upd K.2.2.1 b (-1) else K.2.2.1) b'
        rw [if_neg (fun q => hz (hkept.mpr q)), h10']; exact r3 b' hb'
      · show v 7 + nI 1 = K.2.2.2.2 + nI 1
        rw [r5]
  have loop : ∀ (m i : Nat) (aa : Nat → Nat → Int32), i + m = cpb c → (∀ i, i ≠ 0 → i ≠ 1 → i ≠ 2 → aa i = a i) →
      (∀ w, w < 32 * B → (((∃ j, j < i ∧ w = b * 32 + j * cwd c) ∧ mkB (a 6) w = false) → aa 0 w = -1 ∧ aa 2 w = 0) ∧ (¬ ((∃ j, j < i ∧ w = b * 32 + j * cwd c) ∧ mkB (a 6) w = false) → aa 0 w = a 0 w ∧ aa 1 w = a 1 w ∧ aa 2 w = a 2 w)) →
      V none 16 (fun o w' => o = none ∧ ∃ a' v', w' = wC B a' v' r ∧ frK B a a' v v' ∧ repK B a' v' (sw1 (mkB (a 6)) K b)) (0, 0) 23 [(0, .ref 15), (1, .int (nI b)), (2, .int (nI (cn (fun i => mkB (a 6) (b * 32 + i * cwd c)) i))), (3, .int (nI (cpb c))), (4, .int (nI i))] [.int (nI (cpb c)), .int (nI i)] (wC B aa v r) := by
    have hcp := cpb_le c hc
    intro m
    induction m with
    | zero =>
      intro i aa hi hfr hw
      have e : i = cpb c := by omega
      subst e
      refine V.brT rfl rfl (nI_le (Nat.le_refl _) (by omega)) ?_
      exact V.lt 3 rfl (fin aa _ rfl hfr hw)
    | succ m ih =>
      intro i aa hi hfr hw
      have hic : i < cpb c := by omega
      have hcw := cw_in hc hic
      have hcp2 := cwd_pos c
      have hxB : b * 32 + i * cwd c < 32 * B := by omega
      have h10' : aa 10 = a 10 := hfr 10 (by omega) (by omega) (by omega)
      have h6' : aa 6 = a 6 := hfr 6 (by omega) (by omega) (by omega)
      refine V.brF rfl rfl (nI_ge hic (by omega)) ?_
      refine V.run 20 rfl ?_
      refine V.cv rfl (c_cellOf hB hb hc (by rw [h10']; exact h10)) rfl rfl ?_
      rintro _ _ ⟨rfl, rfl⟩
      refine V.run 20 rfl ?_
      by_cases hm : a 6 (b * 32 + i * cwd c) = -1
      · have hmk : mkB (a 6) (b * 32 + i * cwd c) = false := by simp [mkB, hm]
        refine V.cv rfl (c_whas0 false hB hxB (by rw [show aa (oR false) = a 6 from h6']; exact hm)) rfl rfl ?_
        rintro _ _ ⟨rfl, rfl⟩
        refine V.brT rfl rfl i0_eq0 ?_
        refine V.run 20 rfl ?_
        refine V.cv rfl (c_remove hB hxB) rfl rfl ?_
        rintro _ _ ⟨rfl, rfl⟩
        refine V.run 20 rfl ?_
        rw [nI_add]
        refine V.lt 5 rfl ?_
        have ec : cn (fun i => mkB (a 6) (b * 32 + i * cwd c)) (i + 1) = cn (fun i => mkB (a 6) (b * 32 + i * cwd c)) i := by rw [cn, hmk]; rfl
        have ih := ih (i + 1) (uA (uA (uA aa 0 (b * 32 + i * cwd c) (-1)) 1 (b * 32 + i * cwd c) (nI 0)) 2 (b * 32 + i * cwd c) (nI 0)) (by omega) (fun j p1 p2 p3 => ?_) (fun w hwB => ⟨fun h => ?_, fun h => ?_⟩)
        · rw [ec] at ih; exact ih
        · have b0 : Nat.beq j 0 = false := by rw [Bool.eq_false_iff]; exact fun z => p1 (Nat.eq_of_beq_eq_true z)
          have b1 : Nat.beq j 1 = false := by rw [Bool.eq_false_iff]; exact fun z => p2 (Nat.eq_of_beq_eq_true z)
          have b2 : Nat.beq j 2 = false := by rw [Bool.eq_false_iff]; exact fun z => p3 (Nat.eq_of_beq_eq_true z)
          simp only [uA, b0, b1, b2, cond_false]
          exact hfr j p1 p2 p3
        · show upd (aa 0) (b * 32 + i * cwd c) (-1) w = -1 ∧ upd (aa 2) (b * 32 + i * cwd c) (nI 0) w = 0
          by_cases q : w = b * 32 + i * cwd c
          · subst q; rw [upd_s, upd_s]; exact ⟨rfl, rfl⟩
          · rw [upd_n q, upd_n q]
            obtain ⟨⟨j, hj, hwj⟩, hm2⟩ := h
            refine (hw w hwB).1 ⟨⟨j, ?_, hwj⟩, hm2⟩
            have : j ≠ i := fun z => q (z ▸ hwj)
            omega
        · show upd (aa 0) (b * 32 + i * cwd c) (-1) w = a 0 w ∧ upd (aa 1) (b * 32 + i * cwd c) (nI 0) w = a 1 w ∧ upd (aa 2) (b * 32 + i * cwd c) (nI 0) w = a 2 w
          by_cases q : w = b * 32 + i * cwd c
          · exact absurd ⟨⟨i, by omega, q⟩, by rw [q]; exact hmk⟩ h
          · rw [upd_n q, upd_n q, upd_n q]
            refine (hw w hwB).2 ?_
            rintro ⟨⟨j, hj, hwj⟩, hm2⟩
            exact h ⟨⟨j, by omega, hwj⟩, hm2⟩
      · have hmk : mkB (a 6) (b * 32 + i * cwd c) = true := by simp [mkB, hm]
        refine V.cv rfl (c_whas1 false hB hxB (by rw [show aa (oR false) = a 6 from h6']; exact hm)) rfl rfl ?_
        rintro _ _ ⟨rfl, rfl⟩
        refine V.brF rfl rfl i1_ne0 ?_
        refine V.run 20 rfl ?_
        rw [nI_add, nI_add]
        refine V.lt 5 rfl ?_
        have ec : cn (fun i => mkB (a 6) (b * 32 + i * cwd c)) (i + 1) = cn (fun i => mkB (a 6) (b * 32 + i * cwd c)) i + 1 := by rw [cn, hmk]; rfl
        have ih := ih (i + 1) aa (by omega) hfr (fun w hwB => ⟨fun h => ?_, fun h => ?_⟩)
        · rw [ec] at ih; exact ih
        · obtain ⟨⟨j, hj, hwj⟩, hm2⟩ := h
          refine (hw w hwB).1 ⟨⟨j, ?_, hwj⟩, hm2⟩
          have : j ≠ i := fun z => by rw [hwj, z, hmk] at hm2; cases hm2
          omega
        · refine (hw w hwB).2 ?_
          rintro ⟨⟨j, hj, hwj⟩, hm2⟩
          exact h ⟨⟨j, by omega, hwj⟩, hm2⟩
  refine eX0_clean ?_
  refine V.run 20 rfl ?_
  refine V.cv rfl (c_isUnsweptE hB hb h11 (Or.inr rfl)) rfl rfl ?_
  rintro _ _ ⟨rfl, rfl⟩
  refine V.brT rfl rfl (by decide) ?_
  refine V.run 20 rfl ?_
  refine V.cv rfl (c_cellsIn hB hb hc h10) rfl rfl ?_
  rintro _ _ ⟨rfl, rfl⟩
  refine V.run 20 rfl ?_
  exact loop (cpb c) 0 a (by omega) (fun _ _ _ _ => rfl) (fun w _ => ⟨fun h => by obtain ⟨⟨j, hj, -⟩, -⟩ := h; omega, fun _ => ⟨rfl, rfl, rfl⟩⟩)
end CB
end
section
theorem ecB_congr {nm nm' : Nat → Int32} {b c : Nat} (hc : c < 4) (h : ∀ w, w / 32 = b → nm w = nm' w) : ecB nm b c = ecB nm' b c := by
  unfold ecB
  congr 1
  refine ff_congr (fun i _ hi => ?_)
  have := cw_in hc (show i < cpb c by omega)
  have := cwd_pos c
  rw [h _ (by omega)]
theorem opn_ok {B : Nat} {mkd : Nat → Bool} {K : KS} (h : bkOK B mkd K) {b c : Nat} (hb : K.2.2.1 b = -1) (hc : c < 4) : bkOK B mkd (opn K b c) := by
  obtain ⟨h1, h2, h3, h4, h5⟩ := h
  refine ⟨fun b' hb' => ?_, fun b' hb' => ?_, fun w hw hn => ?_, h4, h5⟩
  · show upd K.2.2.1 b (nI c) b' = -1 ∨ _
    by_cases q : b' = b
    · subst q; exact Or.inr ⟨c, hc, upd_s⟩
    · rw [upd_n q]
      rcases h1 b' hb' with e | ⟨d, hd, e⟩
      · exact Or.inl e
      · exact Or.inr ⟨d, hd, (upd_n q).trans e⟩
  · show K.2.2.2.1 b' = 0 ∨ K.2.2.2.1 b' = 1 ∧ upd K.2.2.1 b (nI c) b' ≠ -1
    by_cases q : b' = b
    · subst q
      rcases h2 b' hb' with e | e
      · exact Or.inl e
      · exact absurd hb e.2
    · rw [upd_n q]; exact h2 b' hb'
  · obtain ⟨d, hd, e1, e2⟩ := h3 w hw hn
    refine ⟨d, hd, ?_, e2⟩
    show upd K.2.2.1 b (nI c) (w / 32) = nI d
    by_cases q : w / 32 = b
    · rw [q, hb] at e1
      exact absurd e1 (m1_nI (by omega))
    · rw [upd_n q]; exact e1
theorem cOwn_ok {B : Nat} {mkd : Nat → Bool} {c : Nat} : ∀ (n b : Nat) (K : KS), b + n = B → bkOK B mkd K → bkOK B mkd (cOwn mkd c n b K)
  | 0, _, _, _, h => h
  | n + 1, b, K, hb, h => by
    unfold cOwn
    split
    · split
      · exact sw1_ok h (by omega)
      · exact cOwn_ok n (b + 1) _ (by omega) (sw1_ok h (by omega))
    · exact cOwn_ok n (b + 1) K (by omega) h
theorem cOth_ok {B : Nat} {mkd : Nat → Bool} {c : Nat} : ∀ (n b : Nat) (K : KS), b + n = B → bkOK B mkd K → bkOK B mkd (cOth mkd c n b K).1 ∧ ∀ x, (cOth mkd c n b K).2 = some x → x < B ∧ (cOth mkd c n b K).1.2.2.1 x = -1
  | 0, _, _, _, h => ⟨h, fun x hx => by simp [cOth] at hx⟩
  | n + 1, b, K, hb, h => by
    unfold cOth
    split
    · split
      · rename_i hf
        exact ⟨sw1_ok h (by omega), fun x hx => by cases hx; exact ⟨by omega, hf⟩⟩
      · exact cOth_ok n (b + 1) _ (by omega) (sw1_ok h (by omega))
    · exact cOth_ok n (b + 1) K (by omega) h
theorem bkOK_mk {B : Nat} {m1 m2 : Nat → Bool} {K : KS} (h : ∀ w, w < 32 * B → m1 w = m2 w) (hK : bkOK B m1 K) : bkOK B m2 K :=
  ⟨hK.1, hK.2.1, hK.2.2.1, hK.2.2.2.1, fun w hw hm => hK.2.2.2.2 w hw (by rw [h w hw]; exact hm)⟩
theorem swN_mk {B : Nat} {m1 m2 : Nat → Bool} (h : ∀ w, w < 32 * B → m1 w = m2 w) {nm : Nat → Int32} {b w : Nat} (hw : w < 32 * B) : swN m1 nm b w = swN m2 nm b w := by unfold swN; rw [h w hw]
theorem swW_mk {B : Nat} {m1 m2 : Nat → Bool} (h : ∀ w, w < 32 * B → m1 w = m2 w) {wt : Nat → Int32} {b w : Nat} (hw : w < 32 * B) : swW m1 wt b w = swW m2 wt b w := by unfold swW; rw [h w hw]
theorem blkE_mk {B : Nat} {m1 m2 : Nat → Bool} (h : ∀ w, w < 32 * B → m1 w = m2 w) {nm : Nat → Int32} {b : Nat} (hb : b < B) : blkE (swN m1 nm b) b = blkE (swN m2 nm b) b := by
  rw [Bool.eq_iff_iff, blkE_iff, blkE_iff]
  constructor
  · intro q w hw; rw [← swN_mk h (by omega)]; exact q w hw
  · intro q w hw; rw [swN_mk h (by omega)]; exact q w hw
theorem repK_mk {B : Nat} {a : Nat → Nat → Int32} {v : Nat → Int32} {m1 m2 : Nat → Bool} {K : KS} (h : ∀ w, w < 32 * B → m1 w = m2 w) {b : Nat} (hb : b < B) (hr : repK B a v (sw1 m1 K b)) : repK B a v (sw1 m2 K b) := by
  obtain ⟨r1, r2, r3, r4, r5⟩ := hr
  refine ⟨fun w hw => (r1 w hw).trans (swN_mk h hw), fun w hw => (r2 w hw).trans (swW_mk h hw), fun b' hb' => (r3 b' hb').trans ?_, r4, r5⟩
  show (if blkE (swN m1 K.1 b) b = true then upd K.2.2.1 b (-1) else K.2.2.1) b' = (if blkE (swN m2 K.1 b) b = true then upd K.2.2.1 b (-1) else K.2.2.1) b'
  rw [blkE_mk h hb]
section CFI
variable {B : Nat} {a : Nat → Nat → Int32} {v : Nat → Int32} {r : xW}
theorem c_cleanM (hB : B ≤ 16) {K : KS} {mkd : Nat → Bool} (hm : ∀ w, w < 32 * B → mkB (a 6) w = mkd w) (hK : bkOK B mkd K) (hr : repK B a v K) {b : Nat} (hb : b < B) (hu : K.2.2.2.1 b = 1) :
    Tot none kX0_clean [.ref 15, .int (nI b)] (wC B a v r) (fun o w' => o = none ∧ ∃ a' v', w' = wC B a' v' r ∧ frK B a a' v v' ∧ repK B a' v' (sw1 mkd K b)) := by
  refine (c_clean hB (bkOK_mk (fun w hw => (hm w hw).symm) hK) hr hb hu).mono ?_
  rintro o w' ⟨h1, a', v', h2, h3, h4⟩
  exact ⟨h1, a', v', h2, h3, repK_mk hm hb h4⟩
theorem c_clean0 : Tot none kX0_clean [.ref 15, .int (-1)] (wC B a v r) (rN (wC B a v r)) := by
  refine eX0_clean ?_
  refine V.run 20 rfl ?_
  refine V.cv rfl c_isUnswept0 rfl rfl ?_
  rintro _ _ ⟨rfl, rfl⟩
  refine V.brF rfl rfl (fun h => h i0_eq0) ?_
  exact V.rv rfl ⟨rfl, rfl⟩
theorem c_emptyCellOf (hB : B ≤ 16) {b c : Nat} (hb : b < B) (hc : c < 4) (h10 : a 10 b = nI c) : Tot none kX0_emptyCellOf [.ref 15, .int (nI b)] (wC B a v r) (rI (oA (ecB (a 0) b c)) (wC B a v r)) := by
  have hcp := cpb_le c hc
  have loop : ∀ (m i : Nat), i + m = cpb c → V none 19 (rI (oA ((ff (fun i => decide (a 0 (b * 32 + i * cwd c) = -1)) m i).map (fun i => b * 32 + i * cwd c))) (wC B a v r)) (0, 0) 10 [(0, .ref 15), (1, .int (nI b)), (2, .int (nI (cpb c))), (3, .int (nI i))] [.int (nI (cpb c)), .int (nI i)] (wC B a v r) := by
    intro m
    induction m with
    | zero =>
      intro i hi
      refine V.brT rfl rfl (nI_le (by omega) (by omega)) ?_
      refine V.run 20 rfl ?_
      exact V.ri rfl ⟨rfl, rfl⟩
    | succ m ih =>
      intro i hi
      have hic : i < cpb c := by omega
      have hcw := cw_in hc hic
      have hcp2 := cwd_pos c
      have hxB : b * 32 + i * cwd c < 32 * B := by omega
      have ih := ih (i + 1) (by omega)
      refine V.brF rfl rfl (nI_ge hic (by omega)) ?_
      refine V.run 20 rfl ?_
      refine V.cv rfl (c_cellOf hB hb hc h10) rfl rfl ?_
      rintro _ _ ⟨rfl, rfl⟩
      refine V.run 20 rfl ?_
      refine V.cv rfl (c_nameAt hB hxB) rfl rfl ?_
      rintro _ _ ⟨rfl, rfl⟩
      refine V.run 20 rfl ?_
      unfold ff
      by_cases hn : a 0 (b * 32 + i * cwd c) = -1
      · refine V.brF rfl rfl (fun h => h hn) ?_
        refine V.run 20 rfl ?_
        exact V.ri rfl ⟨by rw [hn]; rfl, rfl⟩
      · refine V.brT rfl rfl hn ?_
        refine V.run 20 rfl ?_
        rw [nI_add, show decide (a 0 (b * 32 + i * cwd c) = -1) = false from decide_eq_false hn]
        exact V.lt 4 rfl ih
  refine eX0_emptyCellOf ?_
  refine V.run 20 rfl ?_
  refine V.cv rfl (c_cellsIn hB hb hc h10) rfl rfl ?_
  rintro _ _ ⟨rfl, rfl⟩
  refine V.run 20 rfl ?_
  exact loop (cpb c) 0 (by omega)
theorem c_emptyCellOfK (hB : B ≤ 16) {K : KS} (hr : repK B a v K) {b c : Nat} (hb : b < B) (hc : c < 4) (hcl : K.2.2.1 b = nI c) : Tot none kX0_emptyCellOf [.ref 15, .int (nI b)] (wC B a v r) (rI (oA (ecB K.1 b c)) (wC B a v r)) := by
  rw [← ecB_congr hc (fun w hw => hr.1 w (by omega))]
  exact c_emptyCellOf hB hb hc ((hr.2.2.1 b hb).trans hcl)
theorem oA_m1 {x : Nat} (h : x < 2 ^ 31) : oA (some x) ≠ -1 := nI_m1 h
theorem c_emptyCell (hB : B ≤ 16) {K : KS} {mkd : Nat → Bool} (hK : bkOK B mkd K) (hr : repK B a v K) {c : Nat} (hc : c < 4) : Tot none kX0_emptyCell [.ref 15, .int (nI c)] (wC B a v r) (rI (oA (ecA K c B 0)) (wC B a v r)) := by
  have loop : ∀ (m b : Nat), b + m = B → V none 18 (rI (oA (ecA K c m b)) (wC B a v r)) (0, 0) 8 [(0, .ref 15), (1, .int (nI c)), (2, .int (nI b))] [.int (nI B), .int (nI b)] (wC B a v r) := by
    intro m
    induction m with
    | zero =>
      intro b hb
      refine V.brT rfl rfl (nI_le (by omega) (by omega)) ?_
      refine V.run 20 rfl ?_
      exact V.ri rfl ⟨rfl, rfl⟩
    | succ m ih =>
      intro b hbm
      have hb : b < B := by omega
      have ih := ih (b + 1) (by omega)
      refine V.brF rfl rfl (nI_ge hb (by omega)) ?_
      refine V.run 20 rfl ?_
      refine V.ialE rfl rfl rfl hb (by omega) (hr.2.2.1 b hb) ?_
      refine V.run 20 rfl ?_
      unfold ecA
      by_cases h1 : K.2.2.1 b = nI c
      · refine V.brF rfl rfl (fun h => h h1) ?_
        refine V.run 20 rfl ?_
        by_cases h2 : K.2.2.2.1 b = 0
        · refine V.cv rfl (c_isUnsweptE hB hb ((hr.2.2.2.1 b hb).trans h2) (Or.inl rfl)) rfl rfl ?_
          rintro _ _ ⟨rfl, rfl⟩
          refine V.brF rfl rfl (fun h => h rfl) ?_
          refine V.run 20 rfl ?_
          refine V.cv rfl (c_emptyCellOfK hB hr hb hc h1) rfl rfl ?_
          rintro _ _ ⟨rfl, rfl⟩
          rw [if_pos ⟨h1, h2⟩]
          refine V.run 20 rfl ?_
          cases he : ecB K.1 b c with
          | none =>
            refine V.brT rfl rfl rfl ?_
            refine V.run 20 rfl ?_
            rw [nI_add]
            exact V.lt 3 rfl ih
          | some x =>
            have hx := ecB_lt hc he
            refine V.brF rfl rfl (oA_m1 (by omega)) ?_
            refine V.run 20 rfl ?_
            exact V.ri rfl ⟨rfl, rfl⟩
        · have h2' : K.2.2.2.1 b = 1 := by
            rcases hK.2.1 b hb with h | h
            · exact absurd h h2
            · exact h.1
          refine V.cv rfl (c_isUnsweptE hB hb ((hr.2.2.2.1 b hb).trans h2') (Or.inr rfl)) rfl rfl ?_
          rintro _ _ ⟨rfl, rfl⟩
          refine V.brT rfl rfl (by decide) ?_
          rw [if_neg (fun h => h2 h.2)]
          refine V.run 20 rfl ?_
          rw [nI_add]
          exact ih
      · refine V.brT rfl rfl h1 ?_
        rw [if_neg (fun h => h1 h.1)]
        refine V.run 20 rfl ?_
        rw [nI_add]
        exact ih
  refine eX0_emptyCell ?_
  refine V.run 20 rfl ?_
  exact loop B 0 (by omega)
theorem c_firstFree (hB : B ≤ 16) {K : KS} (hr : repK B a v K) : Tot none kX0_firstFree [.ref 15] (wC B a v r) (rI (oA (fFree K B)) (wC B a v r)) := by
  have loop : ∀ (m b : Nat), b + m = B → V none 22 (rI (oA (ff (fun b => decide (K.2.2.1 b = -1)) m b)) (wC B a v r)) (0, 0) 8 [(0, .ref 15), (1, .int (nI b))] [.int (nI B), .int (nI b)] (wC B a v r) := by
    intro m
    induction m with
    | zero =>
      intro b hb
      refine V.brT rfl rfl (nI_le (by omega) (by omega)) ?_
      refine V.run 20 rfl ?_
      exact V.ri rfl ⟨rfl, rfl⟩
    | succ m ih =>
      intro b hbm
      have hb : b < B := by omega
      have ih := ih (b + 1) (by omega)
      refine V.brF rfl rfl (nI_ge hb (by omega)) ?_
      refine V.run 20 rfl ?_
      refine V.ialE rfl rfl rfl hb (by omega) (hr.2.2.1 b hb) ?_
      refine V.run 20 rfl ?_
      unfold ff
      by_cases h1 : K.2.2.1 b = -1
      · refine V.brF rfl rfl (fun h => h h1) ?_
        refine V.run 20 rfl ?_
        exact V.ri rfl ⟨by rw [h1]; rfl, rfl⟩
      · refine V.brT rfl rfl h1 ?_
        refine V.run 20 rfl ?_
        rw [nI_add, show decide (K.2.2.1 b = -1) = false from decide_eq_false h1]
        exact ih
  refine eX0_firstFree ?_
  refine V.run 20 rfl ?_
  exact loop B 0 (by omega)
theorem mk_fr {a' : Nat → Nat → Int32} {v' : Nat → Int32} {mkd : Nat → Bool} (hm : ∀ w, w < 32 * B → mkB (a 6) w = mkd w) (h : frK B a a' v v') : ∀ w, w < 32 * B → mkB (a' 6) w = mkd w := by rw [h.1 6 (by omega) (by omega) (by omega) (by omega) (by omega)]; exact hm
theorem c_cleanOwn (hB : B ≤ 16) {K : KS} {mkd : Nat → Bool} (hm : ∀ w, w < 32 * B → mkB (a 6) w = mkd w) (hK : bkOK B mkd K) (hr : repK B a v K) {c : Nat} (hc : c < 4) :
    Tot none kX0_cleanOwn [.ref 15, .int (nI c)] (wC B a v r) (fun o w' => o = none ∧ ∃ a' v', w' = wC B a' v' r ∧ frK B a a' v v' ∧ repK B a' v' (cOwn mkd c B 0 K)) := by
  have loop : ∀ (m b : Nat) (aa : Nat → Nat → Int32) (vv : Nat → Int32) (K' R : KS), b + m = B → frK B a aa v vv → bkOK B mkd K' → repK B aa vv K' → R = cOwn mkd c m b K' →
      V none 20 (fun o w' => o = none ∧ ∃ a' v', w' = wC B a' v' r ∧ frK B a a' v v' ∧ repK B a' v' R) (0, 0) 8 [(0, .ref 15), (1, .int (nI c)), (2, .int (nI b))] [.int (nI B), .int (nI b)] (wC B aa vv r) := by
    intro m
    induction m with
    | zero =>
      intro b aa vv K' R hb hf hK' hr' hR
      refine V.brT rfl rfl (nI_le (by omega) (by omega)) ?_
      exact V.rv rfl ⟨rfl, aa, vv, rfl, hf, by rw [hR]; exact hr'⟩
    | succ m ih =>
      intro b aa vv K' R hbm hf hK' hr' hR
      have hb : b < B := by omega
      unfold cOwn at hR
      refine V.brF rfl rfl (nI_ge hb (by omega)) ?_
      refine V.run 20 rfl ?_
      refine V.ialE rfl rfl rfl hb (by omega) (hr'.2.2.1 b hb) ?_
      refine V.run 20 rfl ?_
      by_cases h1 : K'.2.2.1 b = nI c
      · refine V.brF rfl rfl (fun h => h h1) ?_
        refine V.run 20 rfl ?_
        by_cases h2 : K'.2.2.2.1 b = 1
        · rw [if_pos ⟨h1, h2⟩] at hR
          refine V.cv rfl (c_isUnsweptE hB hb ((hr'.2.2.2.1 b hb).trans h2) (Or.inr rfl)) rfl rfl ?_
          rintro _ _ ⟨rfl, rfl⟩
          refine V.brF rfl rfl (by decide) ?_
          refine V.run 20 rfl ?_
          refine V.cv rfl (c_cleanM hB (mk_fr hm hf) hK' hr' hb h2) rfl rfl ?_
          rintro _ _ ⟨rfl, a1, v1, rfl, hf1, hr1⟩
          have hf2 := hf.tr hf1
          have hK1 := sw1_ok hK' hb
          refine V.run 20 rfl ?_
          refine V.ialE rfl rfl rfl hb (by omega) (hr1.2.2.1 b hb) ?_
          refine V.run 20 rfl ?_
          by_cases h3 : (sw1 mkd K' b).2.2.1 b = -1
          · rw [if_pos (Or.inl h3)] at hR
            refine V.brT rfl rfl h3 ?_
            exact V.rv rfl ⟨rfl, a1, v1, rfl, hf2, by rw [hR]; exact hr1⟩
          · refine V.brF rfl rfl h3 ?_
            refine V.run 20 rfl ?_
            have h4 : (sw1 mkd K' b).2.2.1 b = nI c := by
              have e : (sw1 mkd K' b).2.2.1 b = (if blkE (swN mkd K'.1 b) b = true then upd K'.2.2.1 b (-1) else K'.2.2.1) b := rfl
              rw [e] at h3 ⊢
              by_cases q : blkE (swN mkd K'.1 b) b = true
              · rw [if_pos q, upd_s] at h3; exact absurd rfl h3
              · rw [if_neg q]; exact h1
            refine V.cv rfl (c_emptyCellOfK hB hr1 hb hc h4) rfl rfl ?_
            rintro _ _ ⟨rfl, rfl⟩
            refine V.run 20 rfl ?_
            cases he : ecB (sw1 mkd K' b).1 b c with
            | none =>
              rw [he, if_neg (by rintro (h | h); exact h3 h; exact h rfl)] at hR
              refine V.brT rfl rfl rfl ?_
              refine V.run 20 rfl ?_
              rw [nI_add]
              exact ih (b + 1) a1 v1 _ R (by omega) hf2 hK1 hr1 hR
            | some x =>
              have hx := ecB_lt hc he
              rw [he, if_pos (Or.inr (by simp))] at hR
              refine V.brF rfl rfl (oA_m1 (by omega)) ?_
              exact V.rv rfl ⟨rfl, a1, v1, rfl, hf2, by rw [hR]; exact hr1⟩
        · have h2' : K'.2.2.2.1 b = 0 := by
            rcases hK'.2.1 b hb with h | h
            · exact h
            · exact absurd h.1 h2
          rw [if_neg (fun h => h2 h.2)] at hR
          refine V.cv rfl (c_isUnsweptE hB hb ((hr'.2.2.2.1 b hb).trans h2') (Or.inl rfl)) rfl rfl ?_
          rintro _ _ ⟨rfl, rfl⟩
          refine V.brT rfl rfl rfl ?_
          refine V.run 20 rfl ?_
          rw [nI_add]
          exact ih (b + 1) aa vv K' R (by omega) hf hK' hr' hR
      · rw [if_neg (fun h => h1 h.1)] at hR
        refine V.brT rfl rfl h1 ?_
        refine V.run 20 rfl ?_
        rw [nI_add]
        exact ih (b + 1) aa vv K' R (by omega) hf hK' hr' hR
  refine eX0_cleanOwn ?_
  refine V.run 20 rfl ?_
  exact loop B 0 a v K _ (by omega) (frK.rf B a v) hK hr rfl
theorem c_cleanOthers (hB : B ≤ 16) {K : KS} {mkd : Nat → Bool} (hm : ∀ w, w < 32 * B → mkB (a 6) w = mkd w) (hK : bkOK B mkd K) (hr : repK B a v K) {c : Nat} (hc : c < 4) :
    Tot none kX0_cleanOthers [.ref 15, .int (nI c)] (wC B a v r) (fun o w' => o = some (.int (oA (cOth mkd c B 0 K).2)) ∧ ∃ a' v', w' = wC B a' v' r ∧ frK B a a' v v' ∧ repK B a' v' (cOth mkd c B 0 K).1) := by
  have loop : ∀ (m b : Nat) (aa : Nat → Nat → Int32) (vv : Nat → Int32) (K' : KS) (R : KS × Option Nat), b + m = B → frK B a aa v vv → bkOK B mkd K' → repK B aa vv K' → R = cOth mkd c m b K' →
      V none 21 (fun o w' => o = some (.int (oA R.2)) ∧ ∃ a' v', w' = wC B a' v' r ∧ frK B a a' v v' ∧ repK B a' v' R.1) (0, 0) 8 [(0, .ref 15), (1, .int (nI c)), (2, .int (nI b))] [.int (nI B), .int (nI b)] (wC B aa vv r) := by
    intro m
    induction m with
    | zero =>
      intro b aa vv K' R hb hf hK' hr' hR
      refine V.brT rfl rfl (nI_le (by omega) (by omega)) ?_
      refine V.run 20 rfl ?_
      exact V.ri rfl ⟨by rw [hR]; rfl, aa, vv, rfl, hf, by rw [hR]; exact hr'⟩
    | succ m ih =>
      intro b aa vv K' R hbm hf hK' hr' hR
      have hb : b < B := by omega
      unfold cOth at hR
      refine V.brF rfl rfl (nI_ge hb (by omega)) ?_
      refine V.run 20 rfl ?_
      refine V.ialE rfl rfl rfl hb (by omega) (hr'.2.2.1 b hb) ?_
      refine V.run 20 rfl ?_
      by_cases h1 : K'.2.2.1 b = nI c
      · rw [if_neg (fun h => h.1 h1)] at hR
        refine V.brT rfl rfl h1 ?_
        refine V.run 20 rfl ?_
        rw [nI_add]
        exact ih (b + 1) aa vv K' R (by omega) hf hK' hr' hR
      · refine V.brF rfl rfl h1 ?_
        refine V.run 20 rfl ?_
        by_cases h2 : K'.2.2.2.1 b = 1
        · rw [if_pos ⟨h1, h2⟩] at hR
          refine V.cv rfl (c_isUnsweptE hB hb ((hr'.2.2.2.1 b hb).trans h2) (Or.inr rfl)) rfl rfl ?_
          rintro _ _ ⟨rfl, rfl⟩
          refine V.brF rfl rfl (by decide) ?_
          refine V.run 20 rfl ?_
          refine V.cv rfl (c_cleanM hB (mk_fr hm hf) hK' hr' hb h2) rfl rfl ?_
          rintro _ _ ⟨rfl, a1, v1, rfl, hf1, hr1⟩
          have hf2 := hf.tr hf1
          have hK1 := sw1_ok hK' hb
          refine V.run 20 rfl ?_
          refine V.ialE rfl rfl rfl hb (by omega) (hr1.2.2.1 b hb) ?_
          refine V.run 20 rfl ?_
          by_cases h3 : (sw1 mkd K' b).2.2.1 b = -1
          · rw [if_pos h3] at hR
            refine V.brF rfl rfl (fun h => h h3) ?_
            refine V.run 20 rfl ?_
            exact V.ri rfl ⟨by rw [hR]; rfl, a1, v1, rfl, hf2, by rw [hR]; exact hr1⟩
          · rw [if_neg h3] at hR
            refine V.brT rfl rfl h3 ?_
            refine V.run 20 rfl ?_
            rw [nI_add]
            exact ih (b + 1) a1 v1 _ R (by omega) hf2 hK1 hr1 hR
        · have h2' : K'.2.2.2.1 b = 0 := by
            rcases hK'.2.1 b hb with h | h
            · exact h
            · exact absurd h.1 h2
          rw [if_neg (fun h => h2 h.2)] at hR
          refine V.cv rfl (c_isUnsweptE hB hb ((hr'.2.2.2.1 b hb).trans h2') (Or.inl rfl)) rfl rfl ?_
          rintro _ _ ⟨rfl, rfl⟩
          refine V.brT rfl rfl rfl ?_
          refine V.run 20 rfl ?_
          rw [nI_add]
          exact ih (b + 1) aa vv K' R (by omega) hf hK' hr' hR
  refine eX0_cleanOthers ?_
  refine V.run 20 rfl ?_
  exact loop B 0 a v K _ (by omega) (frK.rf B a v) hK hr rfl
theorem c_open (hB : B ≤ 16) {K : KS} (hr : repK B a v K) {b c : Nat} (hb : b < B) (hc : c < 4) :
    Tot none kX0_open [.ref 15, .int (nI b), .int (nI c)] (wC B a v r) (fun o w' => o = some (.int (nI (b * 32))) ∧ ∃ a' v', w' = wC B a' v' r ∧ frK B a a' v v' ∧ repK B a' v' (opn K b c)) := by
  refine eX0_open ?_
  refine V.run 20 rfl ?_
  refine V.cv rfl (c_has hB hb) rfl rfl ?_
  rintro _ _ ⟨rfl, rfl⟩
  refine V.brT rfl rfl i1_ne0 ?_
  refine V.run 20 rfl ?_
  refine V.iast (w' := wC B (uA a 10 b (nI c)) v r) rfl rfl rfl hb (by omega) rfl ?_
  refine V.run 20 rfl ?_
  refine V.cv rfl (c_cellOf (i := 0) hB hb hc (show upd (a 10) b (nI c) b = nI c from upd_s)) rfl rfl ?_
  rintro _ _ ⟨rfl, rfl⟩
  refine V.ri rfl ⟨by rw [Nat.zero_mul, Nat.add_zero], _, _, rfl, ⟨fun i p1 p2 p3 p4 p5 => ?_, fun _ _ => rfl, fun _ _ _ => ⟨rfl, rfl⟩⟩, hr.1, hr.2.1, fun b' hb' => ?_, hr.2.2.2.1, hr.2.2.2.2⟩
  · have : Nat.beq i 10 = false := by rw [Bool.eq_false_iff]; exact fun z => p4 (Nat.eq_of_beq_eq_true z)
    simp [uA, this]
  · show upd (a 10) b (nI c) b' = upd K.2.2.1 b (nI c) b'
    by_cases q : b' = b
    · subst q; rw [upd_s, upd_s]
    · rw [upd_n q, upd_n q]; exact hr.2.2.1 b' hb'
theorem c_open0 {z : Int32} : Tot none kX0_open [.ref 15, .int (-1), .int z] (wC B a v r) (rI (-1) (wC B a v r)) := by
  refine eX0_open ?_
  refine V.run 20 rfl ?_
  refine V.cv rfl (c_has0 (Or.inl m1_lt0)) rfl rfl ?_
  rintro _ _ ⟨rfl, rfl⟩
  refine V.brF rfl rfl (fun h => h i0_eq0) ?_
  refine V.run 20 rfl ?_
  exact V.ri rfl ⟨rfl, rfl⟩
theorem ecA_lt {K : KS} {c x : Nat} (hc : c < 4) : ∀ {n b : Nat}, ecA K c n b = some x → x / 32 < b + n ∧ x % 32 % cwd c = 0 ∧ K.1 x = -1 ∧ K.2.2.1 (x / 32) = nI c ∧ K.2.2.2.1 (x / 32) = 0
  | 0, _, h => by simp [ecA] at h
  | n + 1, b, h => by
    unfold ecA at h
    split at h
    · rename_i hcl
      cases he : ecB K.1 b c with
      | none =>
        rw [he] at h
        have := ecA_lt hc h
        exact ⟨by omega, this.2⟩
      | some y =>
        rw [he] at h
        cases h
        obtain ⟨e1, e2, e3⟩ := ecB_lt hc he
        exact ⟨by omega, e2, e3, by rw [e1]; exact hcl.1, by rw [e1]; exact hcl.2⟩
    · have := ecA_lt hc h
      exact ⟨by omega, this.2⟩
theorem c_findCell (hB : B ≤ 16) {K : KS} {mkd : Nat → Bool} (hm : ∀ w, w < 32 * B → mkB (a 6) w = mkd w) (hK : bkOK B mkd K) (hr : repK B a v K) {c : Nat} (hc : c < 4) :
    Tot none kX0_findCell [.ref 15, .int (nI c)] (wC B a v r) (fun o w' => o = some (.int (oA (fCell mkd B c K).2)) ∧ ∃ a' v', w' = wC B a' v' r ∧ frK B a a' v v' ∧ repK B a' v' (fCell mkd B c K).1) := by
  refine eX0_findCell ?_
  refine V.run 20 rfl ?_
  refine V.cv rfl (c_emptyCell hB hK hr hc) rfl rfl ?_
  rintro _ _ ⟨rfl, rfl⟩
  refine V.run 20 rfl ?_
  unfold fCell
  cases h1 : ecA K c B 0 with
  | some x =>
    have hx := ecA_lt hc h1
    refine V.brT rfl rfl (oA_m1 (by omega)) ?_
    refine V.run 20 rfl ?_
    refine V.brF rfl rfl (oA_m1 (by omega)) ?_
    refine V.run 20 rfl ?_
    exact V.ri rfl ⟨rfl, a, v, rfl, frK.rf B a v, hr⟩
  | none =>
    refine V.brF rfl rfl (fun h => h rfl) ?_
    refine V.run 20 rfl ?_
    refine V.cv rfl (c_cleanOwn hB hm hK hr hc) rfl rfl ?_
    rintro _ _ ⟨rfl, a1, v1, rfl, hf1, hr1⟩
    have hK1 := cOwn_ok (c := c) B 0 K (by omega) hK
    refine V.run 20 rfl ?_
    refine V.cv rfl (c_emptyCell hB hK1 hr1 hc) rfl rfl ?_
    rintro _ _ ⟨rfl, rfl⟩
    refine V.run 20 rfl ?_
    cases h2 : ecA (cOwn mkd c B 0 K) c B 0 with
    | some x =>
      have hx := ecA_lt hc h2
      refine V.brF rfl rfl (oA_m1 (by omega)) ?_
      refine V.run 20 rfl ?_
      exact V.ri rfl ⟨rfl, a1, v1, rfl, hf1, hr1⟩
    | none =>
      refine V.brT rfl rfl rfl ?_
      refine V.run 20 rfl ?_
      refine V.cv rfl (c_firstFree hB hr1) rfl rfl ?_
      rintro _ _ ⟨rfl, rfl⟩
      refine V.run 20 rfl ?_
      cases h3 : fFree (cOwn mkd c B 0 K) B with
      | some b =>
        have hb := ff_some h3
        refine V.brT rfl rfl (oA_m1 (by omega)) ?_
        refine V.run 20 rfl ?_
        refine V.cv rfl (c_open hB hr1 (show b < B by omega) hc) rfl rfl ?_
        rintro _ _ ⟨rfl, a2, v2, rfl, hf2, hr2⟩
        exact V.ri rfl ⟨rfl, a2, v2, rfl, hf1.tr hf2, hr2⟩
      | none =>
        refine V.brF rfl rfl (fun h => h rfl) ?_
        refine V.run 20 rfl ?_
        refine V.cv rfl (c_cleanOthers hB (mk_fr hm hf1) hK1 hr1 hc) rfl rfl ?_
        rintro _ _ ⟨rfl, a2, v2, rfl, hf2, hr2⟩
        refine V.run 20 rfl ?_
        have hK2 := cOth_ok (c := c) B 0 _ (by omega) hK1
        cases h4 : cOth mkd c B 0 (cOwn mkd c B 0 K) with
        | mk K2 ob =>
          rw [h4] at hr2 hK2
          cases ob with
          | some b =>
            have hb := hK2.2 b rfl
            refine V.cv rfl (c_open hB hr2 hb.1 hc) rfl rfl ?_
            rintro _ _ ⟨rfl, a3, v3, rfl, hf3, hr3⟩
            exact V.ri rfl ⟨rfl, a3, v3, rfl, (hf1.tr hf2).tr hf3, hr3⟩
          | none =>
            refine V.cv rfl (c_open0) rfl rfl ?_
            rintro _ _ ⟨rfl, rfl⟩
            exact V.ri rfl ⟨rfl, a2, v2, rfl, hf1.tr hf2, hr2⟩
end CFI
end
section
/-! counting -/
def sm (f : Nat → Nat) : Nat → Nat
  | 0 => 0
  | n + 1 => sm f n + f n
theorem cn_add (p : Nat → Bool) (m : Nat) : ∀ n, cn p (m + n) = cn p m + cn (fun i => p (m + i)) n
  | 0 => rfl
  | n + 1 => by
    show cn p (m + n) + _ = _ + (cn _ n + _)
    rw [cn_add p m n]
    exact Nat.add_assoc _ _ _
theorem cn_one {p : Nat → Bool} : ∀ {n : Nat}, 0 < n → (∀ i, 0 < i → i < n → p i = false) → cn p n = bif p 0 then 1 else 0
  | 1, _, _ => by simp [cn]
  | n + 2, _, h => by
    show cn p (n + 1) + _ = _
    rw [cn_one (by omega) (fun i h1 h2 => h i h1 (by omega)), h (n + 1) (by omega) (by omega)]
    rfl
/-- what is counted lies at multiples of d alone -/
theorem cn_step {p : Nat → Bool} {d : Nat} (hd : 0 < d) : ∀ {k : Nat}, (∀ w, w < k * d → p w = true → w % d = 0) → cn p (k * d) = cn (fun i => p (i * d)) k
  | 0, _ => by rw [Nat.zero_mul]; rfl
  | k + 1, h => by
    rw [Nat.add_mul, Nat.one_mul, cn_add, cn_step hd (fun w hw => h w (by rw [Nat.add_mul]; omega)), cn]
    congr 1
    have e := cn_one (p := fun i => p (k * d + i)) hd (fun i h1 h2 => by
      cases hp : p (k * d + i) with
      | false => rfl
      | true =>
        have := h (k * d + i) (by rw [Nat.add_mul]; omega) hp
        rw [Nat.mul_comm, Nat.mul_add_mod, Nat.mod_eq_of_lt h2] at this
        omega)
    rw [e]
    rfl
/-- live words of a block, of the heap -/
def oB (nm : Nat → Int32) (b : Nat) : Nat := cn (fun i => !decide (nm (b * 32 + i) = -1)) 32
def oN (nm : Nat → Int32) (B : Nat) : Nat := cn (fun w => !decide (nm w = -1)) (B * 32)
theorem oN_s (nm : Nat → Int32) (B : Nat) : oN nm (B + 1) = oN nm B + oB nm B := by
  unfold oN oB
  rw [Nat.add_mul, Nat.one_mul, cn_add]
/-- the words of live objects' cells -/
def cwJ (cl : Nat → Int32) (b : Nat) : Nat := cwd (cl b).toNatClampNeg
def oW (nm cl : Nat → Int32) (B : Nat) : Nat := sm (fun b => oB nm b * cwJ cl b) B
theorem oB_free {B : Nat} {mkd : Nat → Bool} {K : KS} (h : bkOK B mkd K) {b : Nat} (hb : b < B) (hf : K.2.2.1 b = -1) : oB K.1 b = 0 := by
  unfold oB
  rw [cn_zero]
  intro i hi
  by_cases q : K.1 (b * 32 + i) = -1
  · simp [q]
  · obtain ⟨c, hc, e, -⟩ := h.2.2.1 _ (by omega) q
    rw [show (b * 32 + i) / 32 = b by omega, hf] at e
    exact absurd e (m1_nI (by omega))
theorem oB_cells {B : Nat} {mkd : Nat → Bool} {K : KS} (h : bkOK B mkd K) {b c : Nat} (hb : b < B) (hc : c < 4) (hcl : K.2.2.1 b = nI c) : oB K.1 b = cn (fun i => !decide (K.1 (b * 32 + i * cwd c) = -1)) (cpb c) := by
  unfold oB
  have e := cn_step (p := fun i => !decide (K.1 (b * 32 + i) = -1)) (d := cwd c) (k := cpb c) (by have := cwd_pos c; omega) ?_
  · rw [cpw c hc] at e
    exact e
  intro w hw hp
  rw [cpw c hc] at hw
  have hn : K.1 (b * 32 + w) ≠ -1 := by simpa using hp
  obtain ⟨c', hc', e1, e2⟩ := h.2.2.1 _ (by omega) hn
  rw [show (b * 32 + w) / 32 = b by omega, hcl] at e1
  have : c' = c := nI_inj (by omega) (by omega) e1.symm
  subst this
  rwa [show (b * 32 + w) % 32 = w by omega] at e2
theorem oB_le (nm : Nat → Int32) (b : Nat) : oB nm b ≤ 32 := cn_le _ _
theorem oW_le (nm cl : Nat → Int32) : ∀ B, (∀ b, b < B → cl b = -1 ∨ ∃ c, c < 4 ∧ cl b = nI c) → oW nm cl B ≤ 512 * B
  | 0, _ => by simp [oW, sm]
  | B + 1, h => by
    have ih := oW_le nm cl B (fun b hb => h b (by omega))
    have h1 := oB_le nm B
    have h2 : cwJ cl B ≤ 16 := by
      unfold cwJ
      rcases h B (by omega) with e | ⟨c, hc, e⟩
      · rw [e]; decide
      · rw [e, nI_clamp (by omega)]; exact cwd_le c hc
    have h3 : oB nm B * cwJ cl B ≤ 32 * 16 := Nat.mul_le_mul h1 h2
    show sm (fun b => oB nm b * cwJ cl b) B + oB nm B * cwJ cl B ≤ 512 * (B + 1)
    unfold oW at ih
    omega
section CT
variable {B : Nat} {a : Nat → Nat → Int32} {v : Nat → Int32} {r : xW}
theorem c_objectsIn (hB : B ≤ 16) {K : KS} {mkd : Nat → Bool} (hK : bkOK B mkd K) (hr : repK B a v K) {b : Nat} (hb : b < B) : Tot none kX0_objectsIn [.ref 15, .int (nI b)] (wC B a v r) (rI (nI (oB K.1 b)) (wC B a v r)) := by
  refine eX0_objectsIn ?_
  refine V.run 20 rfl ?_
  rcases hK.1 b hb with hf | ⟨c, hc, hcl⟩
  · refine V.cv rfl (c_cellsIn0 hB hb ((hr.2.2.1 b hb).trans hf)) rfl rfl ?_
    rintro _ _ ⟨rfl, rfl⟩
    refine V.run 20 rfl ?_
    refine V.brT rfl rfl (nI_le (Nat.le_refl 0) (by omega)) ?_
    refine V.run 20 rfl ?_
    exact V.ri rfl ⟨by rw [oB_free hK hb hf], rfl⟩
  · have h10 : a 10 b = nI c := (hr.2.2.1 b hb).trans hcl
    have hcp := cpb_le c hc
    have loop : ∀ (m i : Nat), i + m = cpb c → V none 8 (rI (nI (oB K.1 b)) (wC B a v r)) (0, 0) 14 [(0, .ref 15), (1, .int (nI b)), (2, .int (nI (cn (fun i => !decide (K.1 (b * 32 + i * cwd c) = -1)) i))), (3, .int (nI (cpb c))), (4, .int (nI i))] [.int (nI (cpb c)), .int (nI i)] (wC B a v r) := by
      intro m
      induction m with
      | zero =>
        intro i hi
        have e : i = cpb c := by omega
        subst e
        refine V.brT rfl rfl (nI_le (Nat.le_refl _) (by omega)) ?_
        refine V.run 20 rfl ?_
        exact V.ri rfl ⟨by rw [oB_cells hK hb hc hcl], rfl⟩
      | succ m ih =>
        intro i hi
        have hic : i < cpb c := by omega
        have hcw := cw_in hc hic
        have hcp2 := cwd_pos c
        have hxB : b * 32 + i * cwd c < 32 * B := by omega
        have ih := ih (i + 1) (by omega)
        rw [cn] at ih
        refine V.brF rfl rfl (nI_ge hic (by omega)) ?_
        refine V.run 20 rfl ?_
        refine V.cv rfl (c_cellOf hB hb hc h10) rfl rfl ?_
        rintro _ _ ⟨rfl, rfl⟩
        refine V.cv rfl (c_nameAtE hB hxB (hr.1 _ hxB)) rfl rfl ?_
        rintro _ _ ⟨rfl, rfl⟩
        refine V.run 20 rfl ?_
        by_cases hn : K.1 (b * 32 + i * cwd c) = -1
        · rw [show (!decide (K.1 (b * 32 + i * cwd c) = -1)) = false by simp [hn]] at ih
          refine V.brT rfl rfl hn ?_
          refine V.run 20 rfl ?_
          refine V.cs rfl c_oneIf0 rfl ?_
          rintro _ _ ⟨rfl, rfl⟩
          refine V.run 20 rfl ?_
          rw [nI_add, nI_add]
          exact ih
        · rw [show (!decide (K.1 (b * 32 + i * cwd c) = -1)) = true by simp [hn]] at ih
          refine V.brF rfl rfl hn ?_
          refine V.run 20 rfl ?_
          refine V.cs rfl c_oneIf1 rfl ?_
          rintro _ _ ⟨rfl, rfl⟩
          refine V.run 20 rfl ?_
          rw [nI_add, nI_add]
          exact ih
    refine V.cv rfl (c_cellsIn hB hb hc h10) rfl rfl ?_
    rintro _ _ ⟨rfl, rfl⟩
    refine V.run 20 rfl ?_
    exact loop (cpb c) 0 (by omega)
theorem c_emptyCellsIn (hB : B ≤ 16) {K : KS} {mkd : Nat → Bool} (hK : bkOK B mkd K) (hr : repK B a v K) {b c : Nat} (hb : b < B) (hc : c < 4) (hcl : K.2.2.1 b = nI c) : Tot none kX0_emptyCellsIn [.ref 15, .int (nI b)] (wC B a v r) (rI (nI (cpb c) - nI (oB K.1 b)) (wC B a v r)) := by
  refine eX0_emptyCellsIn ?_
  refine V.run 20 rfl ?_
  refine V.cv rfl (c_cellsIn hB hb hc ((hr.2.2.1 b hb).trans hcl)) rfl rfl ?_
  rintro _ _ ⟨rfl, rfl⟩
  refine V.run 20 rfl ?_
  refine V.cv rfl (c_objectsIn hB hK hr hb) rfl rfl ?_
  rintro _ _ ⟨rfl, rfl⟩
  refine V.run 20 rfl ?_
  exact V.ri rfl ⟨rfl, rfl⟩
theorem c_emptyCellsIn0 (hB : B ≤ 16) {K : KS} {mkd : Nat → Bool} (hK : bkOK B mkd K) (hr : repK B a v K) {b : Nat} (hb : b < B) (hf : K.2.2.1 b = -1) : Tot none kX0_emptyCellsIn [.ref 15, .int (nI b)] (wC B a v r) (rI (nI 0) (wC B a v r)) := by
  refine eX0_emptyCellsIn ?_
  refine V.run 20 rfl ?_
  refine V.cv rfl (c_cellsIn0 hB hb ((hr.2.2.1 b hb).trans hf)) rfl rfl ?_
  rintro _ _ ⟨rfl, rfl⟩
  refine V.run 20 rfl ?_
  refine V.cv rfl (c_objectsIn hB hK hr hb) rfl rfl ?_
  rintro _ _ ⟨rfl, rfl⟩
  refine V.run 20 rfl ?_
  exact V.ri rfl ⟨by rw [oB_free hK hb hf]; rfl, rfl⟩
theorem c_objects (hB : B ≤ 16) {K : KS} {mkd : Nat → Bool} (hK : bkOK B mkd K) (hr : repK B a v K) : Tot none kX0_objects [.ref 15] (wC B a v r) (rI (nI (oN K.1 B)) (wC B a v r)) := by
  have loop : ∀ (m b : Nat), b + m = B → V none 10 (rI (nI (oN K.1 B)) (wC B a v r)) (0, 0) 10 [(0, .ref 15), (1, .int (nI (oN K.1 b))), (2, .int (nI b))] [.int (nI B), .int (nI b)] (wC B a v r) := by
    intro m
    induction m with
    | zero =>
      intro b hb
      have e : b = B := by omega
      subst e
      refine V.brT rfl rfl (nI_le (Nat.le_refl _) (by omega)) ?_
      refine V.run 20 rfl ?_
      exact V.ri rfl ⟨rfl, rfl⟩
    | succ m ih =>
      intro b hb
      have ih := ih (b + 1) (by omega)
      rw [oN_s] at ih
      refine V.brF rfl rfl (nI_ge (show b < B by omega) (by omega)) ?_
      refine V.run 20 rfl ?_
      refine V.cv rfl (c_objectsIn hB hK hr (show b < B by omega)) rfl rfl ?_
      rintro _ _ ⟨rfl, rfl⟩
      refine V.run 20 rfl ?_
      rw [nI_add, nI_add]
      exact ih
  refine eX0_objects ?_
  refine V.run 20 rfl ?_
  exact loop B 0 (by omega)
theorem c_usedWords (hB : B ≤ 16) {K : KS} {mkd : Nat → Bool} (hK : bkOK B mkd K) (hr : repK B a v K) : Tot none kX0_usedWords [.ref 15] (wC B a v r) (rI (nI (oW K.1 K.2.2.1 B)) (wC B a v r)) := by
  have loop : ∀ (m b : Nat), b + m = B → V none 11 (rI (nI (oW K.1 K.2.2.1 B)) (wC B a v r)) (0, 0) 10 [(0, .ref 15), (1, .int (nI (oW K.1 K.2.2.1 b))), (2, .int (nI b))] [.int (nI B), .int (nI b)] (wC B a v r) := by
    intro m
    induction m with
    | zero =>
      intro b hb
      have e : b = B := by omega
      subst e
      refine V.brT rfl rfl (nI_le (Nat.le_refl _) (by omega)) ?_
      refine V.run 20 rfl ?_
      exact V.ri rfl ⟨rfl, rfl⟩
    | succ m ih =>
      intro b hbm
      have hb : b < B := by omega
      have ih := ih (b + 1) (by omega)
      have es : oW K.1 K.2.2.1 (b + 1) = oW K.1 K.2.2.1 b + oB K.1 b * cwJ K.2.2.1 b := rfl
      rw [es] at ih
      refine V.brF rfl rfl (nI_ge hb (by omega)) ?_
      refine V.run 20 rfl ?_
      refine V.ialE rfl rfl rfl hb (by omega) (hr.2.2.1 b hb) ?_
      refine V.run 20 rfl ?_
      rcases hK.1 b hb with hf | ⟨c, hc, hcl⟩
      · rw [oB_free hK hb hf, Nat.zero_mul, Nat.add_zero] at ih
        refine V.brT rfl rfl hf ?_
        refine V.run 20 rfl ?_
        rw [nI_add]
        exact ih
      · have ej : cwJ K.2.2.1 b = cwd c := by unfold cwJ; rw [hcl, nI_clamp (by omega)]
        rw [ej] at ih
        refine V.brF rfl rfl (by rw [hcl]; exact nI_m1 (by omega)) ?_
        refine V.run 20 rfl ?_
        refine V.cv rfl (c_objectsIn hB hK hr hb) rfl rfl ?_
        rintro _ _ ⟨rfl, rfl⟩
        refine V.run 20 rfl ?_
        refine V.ialE rfl rfl rfl hb (by omega) ((hr.2.2.1 b hb).trans hcl) ?_
        refine V.cs rfl (c_cellWords hc) rfl ?_
        rintro _ _ ⟨rfl, rfl⟩
        refine V.run 20 rfl ?_
        rw [pk_mul, nI_add, nI_add]
        exact ih
  refine eX0_usedWords ?_
  refine V.run 20 rfl ?_
  exact loop B 0 (by omega)
theorem c_freeBlocks (hB : B ≤ 16) {K : KS} (hr : repK B a v K) : Tot none kX0_freeBlocks [.ref 15] (wC B a v r) (rI (nI (cn (fun b => decide (K.2.2.1 b = -1)) B)) (wC B a v r)) := by
  have loop : ∀ (m b : Nat), b + m = B → V none 12 (rI (nI (cn (fun b => decide (K.2.2.1 b = -1)) B)) (wC B a v r)) (0, 0) 10 [(0, .ref 15), (1, .int (nI (cn (fun b => decide (K.2.2.1 b = -1)) b))), (2, .int (nI b))] [.int (nI B), .int (nI b)] (wC B a v r) := by
    intro m
    induction m with
    | zero =>
      intro b hb
      have e : b = B := by omega
      subst e
      refine V.brT rfl rfl (nI_le (Nat.le_refl _) (by omega)) ?_
      refine V.run 20 rfl ?_
      exact V.ri rfl ⟨rfl, rfl⟩
    | succ m ih =>
      intro b hbm
      have hb : b < B := by omega
      have ih := ih (b + 1) (by omega)
      rw [cn] at ih
      refine V.brF rfl rfl (nI_ge hb (by omega)) ?_
      refine V.run 20 rfl ?_
      refine V.ialE rfl rfl rfl hb (by omega) (hr.2.2.1 b hb) ?_
      refine V.run 20 rfl ?_
      by_cases hf : K.2.2.1 b = -1
      · rw [show decide (K.2.2.1 b = -1) = true by simp [hf]] at ih
        refine V.brF rfl rfl (fun h => h hf) ?_
        refine V.run 20 rfl ?_
        refine V.cs rfl c_oneIf1 rfl ?_
        rintro _ _ ⟨rfl, rfl⟩
        refine V.run 20 rfl ?_
        rw [nI_add, nI_add]
        exact ih
      · rw [show decide (K.2.2.1 b = -1) = false by simp [hf]] at ih
        refine V.brT rfl rfl hf ?_
        refine V.run 20 rfl ?_
        refine V.cs rfl c_oneIf0 rfl ?_
        rintro _ _ ⟨rfl, rfl⟩
        refine V.run 20 rfl ?_
        rw [nI_add, nI_add]
        exact ih
  refine eX0_freeBlocks ?_
  refine V.run 20 rfl ?_
  exact loop B 0 (by omega)
theorem c_unsweptBlocks (hB : B ≤ 16) {K : KS} {mkd : Nat → Bool} (hK : bkOK B mkd K) (hr : repK B a v K) : Tot none kX0_unsweptBlocks [.ref 15] (wC B a v r) (rI (nI (cn (fun b => decide (K.2.2.2.1 b = 1)) B)) (wC B a v r)) := by
  have loop : ∀ (m b : Nat), b + m = B → V none 13 (rI (nI (cn (fun b => decide (K.2.2.2.1 b = 1)) B)) (wC B a v r)) (0, 0) 10 [(0, .ref 15), (1, .int (nI (cn (fun b => decide (K.2.2.2.1 b = 1)) b))), (2, .int (nI b))] [.int (nI B), .int (nI b)] (wC B a v r) := by
    intro m
    induction m with
    | zero =>
      intro b hb
      have e : b = B := by omega
      subst e
      refine V.brT rfl rfl (nI_le (Nat.le_refl _) (by omega)) ?_
      refine V.run 20 rfl ?_
      exact V.ri rfl ⟨rfl, rfl⟩
    | succ m ih =>
      intro b hbm
      have hb : b < B := by omega
      have ih := ih (b + 1) (by omega)
      rw [cn] at ih
      refine V.brF rfl rfl (nI_ge hb (by omega)) ?_
      refine V.run 20 rfl ?_
      rcases hK.2.1 b hb with h0 | ⟨h1, -⟩
      · rw [show decide (K.2.2.2.1 b = 1) = false by rw [h0]; rfl] at ih
        refine V.cv rfl (c_isUnsweptE hB hb ((hr.2.2.2.1 b hb).trans h0) (Or.inl rfl)) rfl rfl ?_
        rintro _ _ ⟨rfl, rfl⟩
        refine V.cs rfl (c_oneIfz (Or.inl rfl)) rfl ?_
        rintro _ _ ⟨rfl, rfl⟩
        refine V.run 20 rfl ?_
        rw [show (0 : Int32) = nI 0 from rfl, nI_add, nI_add]
        exact ih
      · rw [show decide (K.2.2.2.1 b = 1) = true by rw [h1]; rfl] at ih
        refine V.cv rfl (c_isUnsweptE hB hb ((hr.2.2.2.1 b hb).trans h1) (Or.inr rfl)) rfl rfl ?_
        rintro _ _ ⟨rfl, rfl⟩
        refine V.cs rfl (c_oneIfz (Or.inr rfl)) rfl ?_
        rintro _ _ ⟨rfl, rfl⟩
        refine V.run 20 rfl ?_
        rw [show (1 : Int32) = nI 1 from rfl, nI_add, nI_add]
        exact ih
  refine eX0_unsweptBlocks ?_
  refine V.run 20 rfl ?_
  exact loop B 0 (by omega)
theorem c_firstUnswept (hB : B ≤ 16) {K : KS} {mkd : Nat → Bool} (hK : bkOK B mkd K) (hr : repK B a v K) : Tot none kX0_firstUnswept [.ref 15] (wC B a v r) (rI (oA (ff (fun b => decide (K.2.2.2.1 b = 1)) B 0)) (wC B a v r)) := by
  have loop : ∀ (m b : Nat), b + m = B → V none 14 (rI (oA (ff (fun b => decide (K.2.2.2.1 b = 1)) m b)) (wC B a v r)) (0, 0) 8 [(0, .ref 15), (1, .int (nI b))] [.int (nI B), .int (nI b)] (wC B a v r) := by
    intro m
    induction m with
    | zero =>
      intro b hb
      refine V.brT rfl rfl (nI_le (by omega) (by omega)) ?_
      refine V.run 20 rfl ?_
      exact V.ri rfl ⟨rfl, rfl⟩
    | succ m ih =>
      intro b hbm
      have hb : b < B := by omega
      have ih := ih (b + 1) (by omega)
      unfold ff
      refine V.brF rfl rfl (nI_ge hb (by omega)) ?_
      refine V.run 20 rfl ?_
      rcases hK.2.1 b hb with h0 | ⟨h1, -⟩
      · rw [show decide (K.2.2.2.1 b = 1) = false by rw [h0]; rfl]
        refine V.cv rfl (c_isUnsweptE hB hb ((hr.2.2.2.1 b hb).trans h0) (Or.inl rfl)) rfl rfl ?_
        rintro _ _ ⟨rfl, rfl⟩
        refine V.brT rfl rfl rfl ?_
        refine V.run 20 rfl ?_
        rw [nI_add]
        exact ih
      · rw [show decide (K.2.2.2.1 b = 1) = true by rw [h1]; rfl]
        refine V.cv rfl (c_isUnsweptE hB hb ((hr.2.2.2.1 b hb).trans h1) (Or.inr rfl)) rfl rfl ?_
        rintro _ _ ⟨rfl, rfl⟩
        refine V.brF rfl rfl (by decide) ?_
        refine V.run 20 rfl ?_
        exact V.ri rfl ⟨rfl, rfl⟩
  refine eX0_firstUnswept ?_
  refine V.run 20 rfl ?_
  exact loop B 0 (by omega)
theorem c_watchedObjects (hB : B ≤ 16) {wt : Nat → Int32} (hr : ∀ w, w < 32 * B → a 2 w = wt w) (h01 : ∀ w, w < 32 * B → wt w = 0 ∨ wt w = 1) : Tot none kX2_watchedObjects [.ref 1] (wC B a v r) (rI (nI (cn (fun k => decide (wt (2 * k) = 1)) (16 * B))) (wC B a v r)) := by
  have loop : ∀ (m k : Nat), k + m = 16 * B → V none 41 (rI (nI (cn (fun k => decide (wt (2 * k) = 1)) (16 * B))) (wC B a v r)) (0, 0) 10 [(0, .ref 1), (1, .int (nI (cn (fun k => decide (wt (2 * k) = 1)) k))), (2, .int (nI (2 * k)))] [.int (nI (32 * B)), .int (nI (2 * k))] (wC B a v r) := by
    intro m
    induction m with
    | zero =>
      intro k hk
      have e : k = 16 * B := by omega
      subst e
      refine V.brT rfl rfl (nI_le (by omega) (by omega)) ?_
      refine V.run 20 rfl ?_
      exact V.ri rfl ⟨rfl, rfl⟩
    | succ m ih =>
      intro k hkm
      have hk : 2 * k < 32 * B := by omega
      have ih := ih (k + 1) (by omega)
      rw [cn, show 2 * (k + 1) = 2 * k + 2 by omega] at ih
      refine V.brF rfl rfl (nI_ge hk (by omega)) ?_
      refine V.run 20 rfl ?_
      rcases h01 _ hk with h0 | h1
      · rw [show decide (wt (2 * k) = 1) = false by rw [h0]; rfl] at ih
        refine V.zalE rfl rfl rfl hk (by omega) ((hr _ hk).trans h0) ?_
        refine V.cs rfl (c_oneIfz (Or.inl rfl)) rfl ?_
        rintro _ _ ⟨rfl, rfl⟩
        refine V.run 20 rfl ?_
        rw [show (0 : Int32) = nI 0 from rfl, nI_add, nI_add]
        exact ih
      · rw [show decide (wt (2 * k) = 1) = true by rw [h1]; rfl] at ih
        refine V.zalE rfl rfl rfl hk (by omega) ((hr _ hk).trans h1) ?_
        refine V.cs rfl (c_oneIfz (Or.inr rfl)) rfl ?_
        rintro _ _ ⟨rfl, rfl⟩
        refine V.run 20 rfl ?_
        rw [show (1 : Int32) = nI 1 from rfl, nI_add, nI_add]
        exact ih
  refine eX2_watchedObjects ?_
  refine V.run 20 rfl ?_
  exact loop (16 * B) 0 (by omega)
end CT
end
section
/-! two heaps that say the same of what matters -/
def agr (N : Nat) (G : Nat → Prop) (fd kd vl fd' kd' vl' : Nat → Int32) : Prop := (∀ x, G x → fd x = fd' x) ∧ (∀ w, w < N → kd w = kd' w) ∧ ∀ w, w < N → vl w = vl' w
theorem fm_congr {α β : Type} {f g : α → Option β} : ∀ {l : List α}, (∀ x ∈ l, f x = g x) → l.filterMap f = l.filterMap g
  | [], _ => rfl
  | x :: r, h => by rw [List.filterMap_cons, List.filterMap_cons, h x List.mem_cons_self, fm_congr (fun y hy => h y (List.mem_cons_of_mem _ hy))]
theorem tgs_congr {N : Nat} {G : Nat → Prop} {fd kd vl fd' kd' vl' : Nat → Int32} (hp : hpOK N fd kd vl G) (hN : N < 2 ^ 31) (h : agr N G fd kd vl fd' kd' vl') {x : Nat} (hx : G x) : tgs fd kd vl x = tgs fd' kd' vl' x := by
  obtain ⟨-, -, m, hm, hf, hmN, -⟩ := hp x hx
  unfold tgs
  rw [← h.1 x hx, hf, nI_clamp (by omega)]
  refine fm_congr (fun j hj => ?_)
  rw [List.mem_range] at hj
  rw [h.2.1 _ (by omega), h.2.2 _ (by omega)]
theorem insL_all {G : Nat → Prop} {L ys : List Nat} (hL : ∀ y ∈ L, G y) (hy : ∀ y ∈ ys, G y) : ∀ y ∈ insL L ys, G y := fun y h => (insL_mem.mp h).elim (hL y) (hy y)
theorem fol_congr {G : Nat → Prop} {T T' : Nat → List Nat} (hT : ∀ x, G x → T x = T' x) (hc : ∀ x y, G x → y ∈ T x → G y) : ∀ (n i : Nat) (L : List Nat), (∀ y ∈ L, G y) → fol T n i L = fol T' n i L ∧ ∀ y ∈ fol T n i L, G y
  | 0, _, L, hL => ⟨rfl, hL⟩
  | n + 1, i, L, hL => by
    unfold fol
    split
    · rename_i hlt
      have hx : G (L.getD i 0) := by
        rw [List.getD_eq_getElem?_getD, List.getElem?_eq_getElem hlt]
        exact hL _ (List.getElem_mem hlt)
      rw [← hT _ hx]
      exact fol_congr hT hc n (i + 1) _ (insL_all hL (fun y hy => hc _ y hx hy))
    · exact ⟨rfl, hL⟩
theorem rts_congr {rt rt' : Nat → Int32} (h : ∀ i, i < 16 → rt i = rt' i) : rts rt 0 16 = rts rt' 0 16 := by
  unfold rts
  refine fm_congr (fun j hj => ?_)
  have := (List.mem_range'_1.mp hj).2
  rw [h j (by omega)]
theorem inF_congr {fd fd' : Nat → Int32} {L : List Nat} (h : ∀ x ∈ L, fd x = fd' x) (w : Nat) : inF fd L w = inF fd' L w := by
  unfold inF
  rw [Bool.eq_iff_iff, List.any_eq_true, List.any_eq_true]
  constructor
  · rintro ⟨y, hy, q⟩; exact ⟨y, hy, by rw [← h y hy]; exact q⟩
  · rintro ⟨y, hy, q⟩; exact ⟨y, hy, by rw [h y hy]; exact q⟩
theorem agr_lo {N : Nat} {G : Nat → Prop} {fd kd vl fd' kd' vl' : Nat → Int32} (h : agr N G fd kd vl fd' kd' vl') {L : List Nat} (hL : ∀ x ∈ L, G x) : agr N G fd (loK fd kd vl L) (loV fd kd vl L) fd' (loK fd' kd' vl' L) (loV fd' kd' vl' L) := by
  have e1 : ∀ w, w < N → (inF fd L w && cutb kd vl L w) = (inF fd' L w && cutb kd' vl' L w) := by
    intro w hw
    rw [inF_congr (fun x hx => h.1 x (hL x hx)) w]
    unfold cutb
    rw [h.2.1 w hw, h.2.2 w hw]
  refine ⟨h.1, fun w hw => ?_, fun w hw => ?_⟩
  · unfold loK cfK; rw [e1 w hw, h.2.1 w hw]
  · unfold loV cfV; rw [e1 w hw, h.2.2 w hw]
theorem insN_congr {nm nm' : Nat → Int32} {x : Nat} (hx : nm x = nm' x) : ∀ {T : List Nat}, (∀ y ∈ T, nm y = nm' y) → insN nm x T = insN nm' x T
  | [], _ => rfl
  | y :: r, h => by
    unfold insN
    rw [hx, h y List.mem_cons_self, insN_congr hx (fun z hz => h z (List.mem_cons_of_mem _ hz))]
theorem sq_congr {N : Nat} {nm nm' wt wt' : Nat → Int32} {L : List Nat} (h1 : ∀ w, w < N → nm w = nm' w) (h2 : ∀ w, w < N → wt w = wt' w) : ∀ k, 2 * k ≤ N → sq nm wt L k = sq nm' wt' L k
  | 0, _ => rfl
  | k + 1, hk => by
    have ih := sq_congr (L := L) h1 h2 k (by omega)
    unfold sq
    rw [← ih, ← h2 _ (show 2 * k < N by omega), insN_congr (h1 _ (by omega)) (fun y hy => h1 y (by have := (sq_mem.mp hy).1; omega))]
theorem wtQ_congr {N : Nat} {wt wt' : Nat → Int32} {L : List Nat} (h2 : ∀ w, w < N → wt w = wt' w) (k : Nat) {w : Nat} (hw : w < N) : wtQ wt L k w = wtQ wt' L k w := by
  unfold wtQ
  rw [h2 w hw]
/-- marking says the same -/
theorem mrk_congr {B : Nat} (hB : B ≤ 16) {G : Nat → Prop} {nm fd wt kd vl rt nm' fd' wt' kd' vl' rt' : Nat → Int32} {Qs : List Nat} (hp : hpOK (32 * B) fd kd vl G) (h : agr (32 * B) G fd kd vl fd' kd' vl') (hr : rtOK rt G) (hrt : ∀ i, i < 16 → rt i = rt' i) (hq : ∀ y ∈ Qs, G y) (hnm : ∀ w, w < 32 * B → nm w = nm' w) (hwt : ∀ w, w < 32 * B → wt w = wt' w) (hw : wtOK (32 * B) nm wt G) :
    mL1 B fd kd vl rt Qs = mL1 B fd' kd' vl' rt' Qs ∧ mT B nm fd wt kd vl rt Qs = mT B nm' fd' wt' kd' vl' rt' Qs ∧ (∀ w, w < 32 * B → mW B fd wt kd vl rt Qs w = mW B fd' wt' kd' vl' rt' Qs w) ∧ mL3 B nm fd wt kd vl rt Qs = mL3 B nm' fd' wt' kd' vl' rt' Qs ∧ (∀ w, w < 32 * B → mK2 B nm fd wt kd vl rt Qs w = mK2 B nm' fd' wt' kd' vl' rt' Qs w) ∧ (∀ w, w < 32 * B → mV2 B nm fd wt kd vl rt Qs w = mV2 B nm' fd' wt' kd' vl' rt' Qs w) := by
  have hN : 32 * B < 2 ^ 31 := by omega
  have hh : heldL rt Qs = heldL rt' Qs := by unfold heldL; rw [rts_congr hrt]
  have hhG : ∀ y ∈ heldL rt Qs, G y := by
    refine insL_all (insL_all (fun y hy => by simp at hy) (fun y hy => ?_)) hq
    obtain ⟨i, hi, he⟩ := List.mem_filterMap.mp hy
    have := (List.mem_range'_1.mp hi).2
    rcases hr i (by omega) with h0 | ⟨x, hx, hg⟩
    · rw [if_pos h0] at he; cases he
    · rw [hx, if_neg (nI_m1 (by have := (hp x hg).1; omega)), nI_clamp (by have := (hp x hg).1; omega)] at he
      cases he; exact hg
  have f1 := fol_congr (fun x hx => tgs_congr hp hN h hx) (fun x y hx hy => tgs_G hp hN hx hy) (16 * B + 1) 0 (heldL rt Qs) hhG
  have e1 : mL1 B fd kd vl rt Qs = mL1 B fd' kd' vl' rt' Qs := by
    unfold mL1; rw [← hh]; exact f1.1
  have g1 : ∀ y ∈ mL1 B fd kd vl rt Qs, G y := f1.2
  have e2 : mT B nm fd wt kd vl rt Qs = mT B nm' fd' wt' kd' vl' rt' Qs := by
    unfold mT; rw [← e1]; exact sq_congr hnm hwt _ (by omega)
  have g2 : ∀ y ∈ mT B nm fd wt kd vl rt Qs, G y := by
    intro y hy
    have := sq_mem.mp hy
    exact hw.2.1 y (by omega) this.2.2.1
  have a1 : agr (32 * B) G fd (mK1 B fd kd vl rt Qs) (mV1 B fd kd vl rt Qs) fd' (mK1 B fd' kd' vl' rt' Qs) (mV1 B fd' kd' vl' rt' Qs) := by
    unfold mK1 mV1; rw [← e1]; exact agr_lo h g1
  have p1 : hpOK (32 * B) fd (mK1 B fd kd vl rt Qs) (mV1 B fd kd vl rt Qs) G := hpOK_lo hp _
  have f3 := fol_congr (fun x hx => tgs_congr p1 hN a1 hx) (fun x y hx hy => tgs_G p1 hN hx hy) (16 * B + 1 - (mL1 B fd kd vl rt Qs).length) (mL1 B fd kd vl rt Qs).length (insL (mL1 B fd kd vl rt Qs) (mT B nm fd wt kd vl rt Qs)) (insL_all g1 g2)
  have e3 : mL3 B nm fd wt kd vl rt Qs = mL3 B nm' fd' wt' kd' vl' rt' Qs := by
    unfold mL3; rw [← e1, ← e2]; exact f3.1
  have a2 := agr_lo a1 f3.2
  have e3' : fol (tgs fd (mK1 B fd kd vl rt Qs) (mV1 B fd kd vl rt Qs)) (16 * B + 1 - (mL1 B fd kd vl rt Qs).length) (mL1 B fd kd vl rt Qs).length (insL (mL1 B fd kd vl rt Qs) (mT B nm fd wt kd vl rt Qs)) = mL3 B nm fd wt kd vl rt Qs := rfl
  rw [e3'] at a2
  refine ⟨e1, e2, fun w hw' => ?_, e3, fun w hw' => ?_, fun w hw' => ?_⟩
  · unfold mW; rw [← e1]; exact wtQ_congr hwt _ hw'
  · unfold mK2; rw [← e3]; exact a2.2.1 w hw'
  · unfold mV2; rw [← e3]; exact a2.2.2 w hw'
end
section
/-! THE STATE, as the document has it: blocks; fields' numbers, kinds, values; roots; the queue; made; markings; marked -/
abbrev AS : Type := KS × (Nat → Int32) × (Nat → Int32) × (Nat → Int32) × (Nat → Int32) × List Nat × Int32 × Int32 × (Nat → Bool)
abbrev sK (s : AS) : KS := s.1
abbrev sF (s : AS) : Nat → Int32 := s.2.1
abbrev sD (s : AS) : Nat → Int32 := s.2.2.1
abbrev sV (s : AS) : Nat → Int32 := s.2.2.2.1
abbrev sR (s : AS) : Nat → Int32 := s.2.2.2.2.1
abbrev sQ (s : AS) : List Nat := s.2.2.2.2.2.1
abbrev sM (s : AS) : Int32 := s.2.2.2.2.2.2.1
abbrev sN (s : AS) : Int32 := s.2.2.2.2.2.2.2.1
abbrev sB (s : AS) : Nat → Bool := s.2.2.2.2.2.2.2.2
/-- an object that is there, and no sweeping takes it away -/
def safe (B : Nat) (s : AS) (x : Nat) : Prop := x < 32 * B ∧ (sK s).1 x ≠ -1 ∧ (sB s x = true ∨ (sK s).2.2.2.1 (x / 32) = 0)
/-- the class of an object of m fields -/
def clsF (m : Nat) : Nat := if m < 2 then 0 else if m < 4 then 1 else if m < 8 then 2 else 3
theorem clsF_lt (m : Nat) : clsF m < 4 := by unfold clsF; split <;> (try split) <;> (try split) <;> omega
theorem clsF_fit : ∀ m, m ≤ 15 → m + 1 ≤ cwd (clsF m) := by decide
def Inv (B n : Nat) (s : AS) : Prop :=
  bkOK B (sB s) (sK s) ∧ hpOK (32 * B) (sF s) (sD s) (sV s) (safe B s) ∧ rtOK (sR s) (safe B s) ∧ Wg B (safe B s) (sQ s) ∧ wtOK (32 * B) (sK s).1 (sK s).2.1 (safe B s) ∧
  (∃ M, M ≤ n ∧ sM s = nI M ∧ ∀ x, x < 32 * B → (sK s).1 x ≠ -1 → ∃ m, m < M ∧ (sK s).1 x = nI m) ∧
  (∀ x y, x < 32 * B → y < 32 * B → (sK s).1 x ≠ -1 → (sK s).1 x = (sK s).1 y → x = y) ∧
  (∀ x, x < 32 * B → (sK s).1 x ≠ -1 → ∃ m, m ≤ 15 ∧ sF s x = nI m ∧ (sK s).2.2.1 (x / 32) = nI (clsF m))
def ixN (n : Nat) (x : Int32) : Option Nat := if x < 0 ∨ nI n ≤ x then none else some x.toNatClampNeg
theorem ixN_or {n : Nat} (hn : n < 2 ^ 31) (x : Int32) : ((x < 0 ∨ nI n ≤ x) ∧ ixN n x = none) ∨ ∃ j, j < n ∧ x = nI j ∧ ixN n x = some j := by
  rcases pk_ix x hn with h | h | ⟨j, hj, rfl⟩
  · exact Or.inl ⟨Or.inl h, if_pos (Or.inl h)⟩
  · exact Or.inl ⟨Or.inr h, if_pos (Or.inr h)⟩
  · refine Or.inr ⟨j, hj, rfl, ?_⟩
    unfold ixN
    rw [if_neg, nI_clamp (by omega)]
    rintro (h | h)
    · exact nI_pos (by omega) h
    · exact nI_ge hj hn h
/-- a field of a root's object, or why there is none -/
def flt (s : AS) (root field : Int32) : Int32 ⊕ (Nat × Nat) := match ixN 15 field, ixN 16 root with
  | some j, some i => if sR s i = -1 then .inl (-3) else if sF s (sR s i).toNatClampNeg ≤ nI j then .inl (-2) else .inr ((sR s i).toNatClampNeg, j)
  | _, _ => .inl (-2)
def fcode (q : Int32 ⊕ (Nat × Nat)) : Int32 := match q with
  | .inl e => e
  | .inr _ => nI 0
def upKV (s : AS) (w : Nat) (k z : Int32) : AS := (sK s, sF s, upd (sD s) w k, upd (sV s) w z, sR s, sQ s, sM s, sN s, sB s)
def upR (s : AS) (i : Nat) (z : Int32) : AS := (sK s, sF s, sD s, sV s, upd (sR s) i z, sQ s, sM s, sN s, sB s)
def nmO (s : AS) (z : Int32) : Int32 := if z = -1 then -1 else (sK s).1 z.toNatClampNeg
def opSet (s : AS) (root field z : Int32) : Int32 × AS := match flt s root field with
  | .inl e => (e, s)
  | .inr q => (nI 0, upKV s (q.1 + 1 + q.2) (nI 0) z)
def opLink (s : AS) (root field to wk : Int32) : Int32 × AS := match ixN 16 to with
  | none => (-2, s)
  | some t => match flt s root field with
    | .inl e => (e, s)
    | .inr q => if sR s t = -1 then (-3, s) else (nI 0, upKV s (q.1 + 1 + q.2) (if wk = 0 then nI 1 else nI 2) (sR s t))
def opRefers (s : AS) (root field : Int32) : Int32 := match flt s root field with
  | .inl e => e
  | .inr q => sD s (q.1 + 1 + q.2)
def opNumber (s : AS) (root field : Int32) : Int32 := match flt s root field with
  | .inl _ => nI 0
  | .inr q => if sD s (q.1 + 1 + q.2) = 0 then sV s (q.1 + 1 + q.2) else nI 0
def opLoad (s : AS) (root frm field : Int32) : Int32 × AS := match ixN 16 root with
  | none => (-2, s)
  | some i => match flt s frm field with
    | .inl e => (e, s)
    | .inr q => if sD s (q.1 + 1 + q.2) = 0 then (-3, s) else (nmO s (sV s (q.1 + 1 + q.2)), upR s i (sV s (q.1 + 1 + q.2)))
def opCopy (s : AS) (root frm : Int32) : Int32 × AS := match ixN 16 root, ixN 16 frm with
  | some i, some j => (nmO s (sR s j), upR s i (sR s j))
  | _, _ => (-2, s)
def opDrop (s : AS) (root : Int32) : Int32 × AS := match ixN 16 root with
  | none => (-2, s)
  | some i => (if sR s i = -1 then nI 0 else nI 1, upR s i (-1))
def opWatch (s : AS) (root on : Int32) : Int32 × AS := match ixN 16 root with
  | none => (-2, s)
  | some i => if sR s i = -1 then (-3, s) else ((sK s).2.1 (sR s i).toNatClampNeg, (((sK s).1, upd (sK s).2.1 (sR s i).toNatClampNeg on, (sK s).2.2), s.2))
def opNext (s : AS) (root : Int32) : Int32 × AS := match ixN 16 root with
  | none => (-2, s)
  | some i => match sQ s with
    | [] => (-1, s)
    | x :: q => ((sK s).1 x, (sK s, sF s, sD s, sV s, upd (sR s) i (nI x), q, sM s, sN s, sB s))
def mrk (B : Nat) (s : AS) : AS := (((sK s).1, mW B (sF s) (sK s).2.1 (sD s) (sV s) (sR s) (sQ s), (sK s).2.2.1, (fun b => if (sK s).2.2.1 b = -1 then 0 else 1), (sK s).2.2.2.2), sF s, mK2 B (sK s).1 (sF s) (sK s).2.1 (sD s) (sV s) (sR s) (sQ s), mV2 B (sK s).1 (sF s) (sK s).2.1 (sD s) (sV s) (sR s) (sQ s), sR s, sQ s ++ mT B (sK s).1 (sF s) (sK s).2.1 (sD s) (sV s) (sR s) (sQ s), sM s, sN s + nI 1, (fun w => decide (w ∈ mL3 B (sK s).1 (sF s) (sK s).2.1 (sD s) (sV s) (sR s) (sQ s))))
def opMark (B : Nat) (s : AS) : Int32 × AS := (nI (mL3 B (sK s).1 (sF s) (sK s).2.1 (sD s) (sV s) (sR s) (sQ s)).length, mrk B s)
def opSweep (B : Nat) (s : AS) : Int32 × AS := match ff (fun b => decide ((sK s).2.2.2.1 b = 1)) B 0 with
  | none => (-1, s)
  | some b => (nI b, (sw1 (sB s) (sK s) b, s.2))
def opObject (s : AS) (root what : Int32) : Int32 := match ixN 6 what, ixN 16 root with
  | some k, some i => if sR s i = -1 then -3 else
      (if k = 0 then (sK s).1 (sR s i).toNatClampNeg else if k = 1 then sR s i else if k = 2 then sF s (sR s i).toNatClampNeg else if k = 3 then (sK s).2.2.1 ((sR s i).toNatClampNeg / 32) else if k = 4 then (sK s).2.1 (sR s i).toNatClampNeg else if sB s (sR s i).toNatClampNeg = true then nI 1 else nI 0)
  | _, _ => -2
def opAt (B : Nat) (s : AS) (word : Int32) : Int32 := match ixN (32 * B) word with
  | none => -2
  | some w => if (sK s).2.2.1 (w / 32) = -1 then -1 else (sK s).1 (w - w % cwJ (sK s).2.2.1 (w / 32))
def opBlock (B : Nat) (s : AS) (b what : Int32) : Int32 := match ixN B b, ixN 4 what with
  | some b, some k => if k = 0 then (sK s).2.2.1 b else if k = 1 then (sK s).2.2.2.1 b else if k = 2 then nI (oB (sK s).1 b) else if (sK s).2.2.1 b = -1 then nI 0 else nI (32 / cwJ (sK s).2.2.1 b) - nI (oB (sK s).1 b)
  | _, _ => -2
def hld (B : Nat) (s : AS) : List Nat := fol (tgs (sF s) (sD s) (sV s)) (16 * B + 1) 0 (heldL (sR s) (sQ s))
def opCount (B : Nat) (s : AS) (what : Int32) : Int32 := match ixN 10 what with
  | none => -2
  | some k => if k = 0 then nI (oN (sK s).1 B) else if k = 1 then nI (oW (sK s).1 (sK s).2.2.1 B) else if k = 2 then sM s else if k = 3 then sN s else if k = 4 then (sK s).2.2.2.2 else if k = 5 then nI (cn (fun b => decide ((sK s).2.2.1 b = -1)) B) else if k = 6 then nI (cn (fun b => decide ((sK s).2.2.2.1 b = 1)) B) else if k = 7 then nI (sQ s).length else if k = 8 then nI (cn (fun k => decide ((sK s).2.1 (2 * k) = 1)) (16 * B)) else nI (hld B s).length
def opSame (s : AS) (one other : Int32) : Int32 := match ixN 16 one, ixN 16 other with
  | some i, some j => if sR s i = sR s j then nI 1 else nI 0
  | _, _ => -2
/-- the rank of an object in a list -/
def rkN : List Nat → Nat → Nat
  | [], _ => 0
  | x :: r, y => if x = y then 0 else rkN r y + 1
theorem rkN_get {y : Nat} : ∀ {L : List Nat} {i : Nat}, L.Nodup → L[i]? = some y → rkN L y = i
  | [], i, _, h => by simp at h
  | x :: r, 0, _, h => by
    simp at h
    simp [rkN, h]
  | x :: r, i + 1, hn, h => by
    rw [List.nodup_cons] at hn
    rw [List.getElem?_cons_succ] at h
    have : x ≠ y := fun e => hn.1 (e ▸ List.mem_of_getElem? h)
    simp [rkN, this, rkN_get hn.2 h]
def sTm (kd vl : Nat → Int32) (L : List Nat) (w : Nat) : Int64 := if kd w = 0 then lN 3 * (vl w).toInt64 else if kd w = 1 then lN 3 * (nI (rkN L (vl w).toNatClampNeg)).toInt64 + lN 1 else lN 2
def sFl (t : Nat → Int64) (z : Int64) : Nat → Int64
  | 0 => z
  | j + 1 => lN 31 * sFl t z j + t j
def sOb (fd kd vl : Nat → Int32) (L : List Nat) (x : Nat) (z : Int64) : Int64 := sFl (fun j => sTm kd vl L (x + 1 + j)) (lN 31 * z + (fd x).toInt64) (fd x).toNatClampNeg
def sAll (fd kd vl : Nat → Int32) (L : List Nat) : Nat → Int64
  | 0 => lN 7
  | i + 1 => sOb fd kd vl L (L.getD i 0) (sAll fd kd vl L i)
def opSum (B : Nat) (s : AS) (root : Int32) : Int64 := match ixN 16 root with
  | none => -(lN 2)
  | some i => if sR s i = -1 then lN 0 else
      sAll (sF s) (sD s) (sV s) (fol (tgs (sF s) (sD s) (sV s)) (16 * B + 1) 0 [(sR s i).toNatClampNeg]) (fol (tgs (sF s) (sD s) (sV s)) (16 * B + 1) 0 [(sR s i).toNatClampNeg]).length
/-- zeros in the fields of a new object -/
def zr (f : Nat → Int32) (x m : Nat) : Nat → Int32 := fun w => bif Nat.ble (x + 1) w && Nat.ble w (x + m) then nI 0 else f w
/-- room for an object of class c, with marking if it must be -/
def rmC (B c : Nat) (s : AS) : AS × Option Nat := match fCell (sB s) B c (sK s) with
  | (K, some x) => ((K, s.2), some x)
  | (K, none) => (((fCell (sB (mrk B (K, s.2))) B c (sK (mrk B (K, s.2)))).1, (mrk B (K, s.2)).2), (fCell (sB (mrk B (K, s.2))) B c (sK (mrk B (K, s.2)))).2)
def opMake (B : Nat) (s : AS) (root n : Int32) : Int32 × AS := match ixN 16 root, ixN 16 n with
  | some i, some m => match rmC B (clsF m) s with
    | (t, none) => (-4, t)
    | (t, some x) => (sM t, ((upd (sK t).1 x (sM t), (sK t).2), upd (sF t) x (nI m), zr (sD t) x m, zr (sV t) x m, upd (sR t) i (nI x), sQ t, sM t + nI 1, sN t, sB t))
  | _, _ => (-2, s)
end
section
/-! THE CLASS holds the state -/
def RepC (B : Nat) (a : Nat → Nat → Int32) (v : Nat → Int32) (s : AS) : Prop :=
  repK B a v (sK s) ∧ (∀ w, w < 32 * B → (sK s).1 w ≠ -1 → a 1 w = sF s w) ∧ (∀ w, w < 32 * B → a 3 w = sD s w) ∧ (∀ w, w < 32 * B → a 4 w = sV s w) ∧ (∀ i, i < 16 → a 12 i = sR s i) ∧ Ql (sQ s) (a 9) (v 6) ∧ v 0 = sM s ∧ v 1 = sN s ∧ ∀ w, w < 32 * B → mkB (a 6) w = sB s w
/-- an answer that is an int, and the class's world behind it -/
abbrev rC (B : Nat) (r : xW) (q : Int32 × AS) : Option Value → xW → Prop := fun o w' => o = some (.int q.1) ∧ ∃ a' v', w' = wC B a' v' r ∧ RepC B a' v' q.2
theorem fl_ok {B n : Nat} (hB : B ≤ 16) {s : AS} (hI : Inv B n s) {root field : Int32} {q : Nat × Nat} (h : flt s root field = .inr q) : ∃ i m, i < 16 ∧ root = nI i ∧ sR s i = nI q.1 ∧ field = nI q.2 ∧ q.2 < m ∧ m ≤ 15 ∧ sF s q.1 = nI m ∧ safe B s q.1 ∧ q.1 + 1 + m ≤ 32 * B ∧ q.2 < 15 := by
  unfold flt at h
  rcases ixN_or (n := 15) (by omega) field with ⟨-, e⟩ | ⟨j, hj, rfl, e⟩
  · rw [e] at h; cases h
  · rcases ixN_or (n := 16) (by omega) root with ⟨-, e2⟩ | ⟨i, hi, rfl, e2⟩
    · rw [e, e2] at h; cases h
    · rw [e, e2] at h
      dsimp only at h
      rcases hI.2.2.1 i hi with h0 | ⟨x, hx, hs⟩
      · rw [if_pos h0] at h; cases h
      · obtain ⟨hxN, -, m, hm, hf, hN, -⟩ := hI.2.1 x hs
        rw [hx, if_neg (nI_m1 (by omega)), nI_clamp (by omega), hf] at h
        split at h
        · cases h
        · rename_i hle
          cases h
          refine ⟨i, m, hi, rfl, hx, rfl, ?_, hm, hf, hs, hN, hj⟩
          rcases Nat.lt_or_ge j m with q | q
          · exact q
          · exact absurd (nI_le q (by omega)) hle
section CP
variable {B : Nat} {a : Nat → Nat → Int32} {v : Nat → Int32} {r : xW}
theorem hpC {n : Nat} {s : AS} (hI : Inv B n s) (hr : RepC B a v s) : hpOK (32 * B) (a 1) (a 3) (a 4) (safe B s) := by
  intro x hx
  obtain ⟨h1, h2, m, h3, h4, h5, h6⟩ := hI.2.1 x hx
  refine ⟨h1, h2, m, h3, (hr.2.1 x h1 hx.2.1).trans h4, h5, fun j hj => ?_⟩
  rw [hr.2.2.1 _ (by omega), hr.2.2.2.1 _ (by omega)]
  exact h6 j hj
theorem c_rootFault0 {x : Int32} (hx : x < 0 ∨ nI 16 ≤ x) : Tot none kX4_rootFault [.ref 0, .int x] (wC B a v r) (rI (-2) (wC B a v r)) := by
  refine eX4_rootFault ?_
  refine V.run 20 rfl ?_
  refine V.cs rfl (c_isRoot0 hx) rfl ?_
  rintro _ _ ⟨rfl, rfl⟩
  refine V.brF rfl rfl (fun h => h i0_eq0) ?_
  refine V.run 20 rfl ?_
  exact V.ri rfl ⟨rfl, rfl⟩
theorem c_rootFault1 {i : Nat} (hi : i < 16) (h : a 12 i = -1) : Tot none kX4_rootFault [.ref 0, .int (nI i)] (wC B a v r) (rI (-3) (wC B a v r)) := by
  refine eX4_rootFault ?_
  refine V.run 20 rfl ?_
  refine V.cs rfl (c_isRoot1 hi) rfl ?_
  rintro _ _ ⟨rfl, rfl⟩
  refine V.brT rfl rfl i1_ne0 ?_
  refine V.run 20 rfl ?_
  refine V.ialE rfl rfl rfl hi (by omega) h ?_
  refine V.run 20 rfl ?_
  refine V.brF rfl rfl (fun h => h rfl) ?_
  refine V.run 20 rfl ?_
  exact V.ri rfl ⟨rfl, rfl⟩
theorem c_rootFault2 {i x : Nat} (hi : i < 16) (h : a 12 i = nI x) (hx : x < 2 ^ 31) : Tot none kX4_rootFault [.ref 0, .int (nI i)] (wC B a v r) (rI (nI 0) (wC B a v r)) := by
  refine eX4_rootFault ?_
  refine V.run 20 rfl ?_
  refine V.cs rfl (c_isRoot1 hi) rfl ?_
  rintro _ _ ⟨rfl, rfl⟩
  refine V.brT rfl rfl i1_ne0 ?_
  refine V.run 20 rfl ?_
  refine V.ialE rfl rfl rfl hi (by omega) h ?_
  refine V.run 20 rfl ?_
  refine V.brT rfl rfl (nI_m1 hx) ?_
  refine V.run 20 rfl ?_
  exact V.ri rfl ⟨rfl, rfl⟩
theorem c_fieldFault (hB : B ≤ 16) {n : Nat} {s : AS} (hI : Inv B n s) (hr : RepC B a v s) (root field : Int32) : Tot none kX4_fieldFault [.ref 0, .int root, .int field] (wC B a v r) (rI (fcode (flt s root field)) (wC B a v r)) := by
  refine eX4_fieldFault ?_
  unfold flt
  rcases ixN_or (n := 15) (by omega) field with ⟨hbad, e⟩ | ⟨j, hj, rfl, e⟩
  · rw [e]
    refine V.run 20 rfl ?_
    refine V.br rfl rfl (fun h => ?_) (fun h => ?_)
    · refine V.run 20 rfl ?_
      exact V.ri rfl ⟨rfl, rfl⟩
    · refine V.run 20 rfl ?_
      refine V.brF rfl rfl (fun q => absurd (hbad.resolve_left h) (Int32.not_le.mpr q)) ?_
      refine V.run 20 rfl ?_
      exact V.ri rfl ⟨rfl, rfl⟩
  · rw [e]
    refine V.run 20 rfl ?_
    refine V.brF rfl rfl (nI_pos (by omega)) ?_
    refine V.run 20 rfl ?_
    refine V.brT rfl rfl (nI_lt hj (by omega)) ?_
    refine V.run 20 rfl ?_
    rcases ixN_or (n := 16) (by omega) root with ⟨hbad, e2⟩ | ⟨i, hi, rfl, e2⟩
    · rw [e2]
      refine V.cv rfl (c_rootFault0 hbad) rfl rfl ?_
      rintro _ _ ⟨rfl, rfl⟩
      refine V.run 20 rfl ?_
      refine V.brF rfl rfl (by decide) ?_
      refine V.run 20 rfl ?_
      exact V.ri rfl ⟨rfl, rfl⟩
    · rw [e2]
      have h12 := hr.2.2.2.2.1 i hi
      rcases hI.2.2.1 i hi with h0 | ⟨x, hx, hs⟩
      · refine V.cv rfl (c_rootFault1 hi (h12.trans h0)) rfl rfl ?_
        rintro _ _ ⟨rfl, rfl⟩
        refine V.run 20 rfl ?_
        refine V.brF rfl rfl (by decide) ?_
        refine V.run 20 rfl ?_
        exact V.ri rfl ⟨by dsimp only; rw [if_pos h0]; rfl, rfl⟩
      · obtain ⟨hxN, -, m, hm, hf, hN, -⟩ := hI.2.1 x hs
        refine V.cv rfl (c_rootFault2 hi (h12.trans hx) (by omega)) rfl rfl ?_
        rintro _ _ ⟨rfl, rfl⟩
        refine V.run 20 rfl ?_
        refine V.brT rfl rfl i0_eq0 ?_
        refine V.run 20 rfl ?_
        refine V.ialE rfl rfl rfl hi (by omega) (h12.trans hx) ?_
        refine V.cv rfl (c_fieldsOfE hB hxN ((hr.2.1 x hxN hs.2.1).trans hf)) rfl rfl ?_
        rintro _ _ ⟨rfl, rfl⟩
        dsimp only
        rw [hx, if_neg (nI_m1 (by omega)), nI_clamp (by omega), hf]
        refine V.br rfl rfl (fun h => ?_) (fun h => ?_)
        · refine V.run 20 rfl ?_
          exact V.ri rfl ⟨by rw [if_pos h]; rfl, rfl⟩
        · refine V.run 20 rfl ?_
          exact V.ri rfl ⟨by rw [if_neg h]; rfl, rfl⟩
theorem fl_code {B n : Nat} {s : AS} (hI : Inv B n s) (root field : Int32) : (∃ e, flt s root field = .inl e ∧ (e = -2 ∨ e = -3)) ∨ ∃ q, flt s root field = .inr q := by
  unfold flt
  rcases ixN_or (n := 15) (by omega) field with ⟨-, e⟩ | ⟨j, hj, rfl, e⟩
  · rw [e]; exact Or.inl ⟨_, rfl, Or.inl rfl⟩
  · rcases ixN_or (n := 16) (by omega) root with ⟨-, e2⟩ | ⟨i, hi, rfl, e2⟩
    · rw [e, e2]; exact Or.inl ⟨_, rfl, Or.inl rfl⟩
    · rw [e, e2]
      dsimp only
      split
      · exact Or.inl ⟨_, rfl, Or.inr rfl⟩
      · split
        · exact Or.inl ⟨_, rfl, Or.inl rfl⟩
        · exact Or.inr ⟨_, rfl⟩
theorem RepC.upKV {s : AS} (hr : RepC B a v s) (w : Nat) (k z : Int32) : RepC B (uA (uA a 3 w k) 4 w z) v (upKV s w k z) := by
  obtain ⟨h1, h2, h3, h4, h5, h6, h7, h8, h9⟩ := hr
  refine ⟨h1, h2, fun x hx => ?_, fun x hx => ?_, h5, h6, h7, h8, h9⟩
  · show upd (a 3) w k x = upd (sD s) w k x
    by_cases q : x = w
    · subst q; rw [upd_s, upd_s]
    · rw [upd_n q, upd_n q]; exact h3 x hx
  · show upd (a 4) w z x = upd (sV s) w z x
    by_cases q : x = w
    · subst q; rw [upd_s, upd_s]
    · rw [upd_n q, upd_n q]; exact h4 x hx
theorem RepC.upR {s : AS} (hr : RepC B a v s) (i : Nat) (z : Int32) : RepC B (uA a 12 i z) v (upR s i z) := by
  obtain ⟨h1, h2, h3, h4, h5, h6, h7, h8, h9⟩ := hr
  refine ⟨h1, h2, h3, h4, fun x hx => ?_, h6, h7, h8, h9⟩
  show upd (a 12) i z x = upd (sR s) i z x
  by_cases q : x = i
  · subst q; rw [upd_s, upd_s]
  · rw [upd_n q, upd_n q]; exact h5 x hx
theorem c_set (hB : B ≤ 16) {n : Nat} {s : AS} (hI : Inv B n s) (hr : RepC B a v s) (root field z : Int32) : Tot none kX4_set [.ref 0, .int root, .int field, .int z] (wC B a v r) (rC B r (opSet s root field z)) := by
  refine eX4_set ?_
  refine V.run 20 rfl ?_
  refine V.cv rfl (c_fieldFault hB hI hr root field) rfl rfl ?_
  rintro _ _ ⟨rfl, rfl⟩
  unfold opSet
  rcases fl_code hI root field with ⟨e, he, h23⟩ | ⟨q, hq⟩
  · rw [he]
    refine V.run 20 rfl ?_
    refine V.brT rfl rfl (by rcases h23 with rfl | rfl <;> decide) ?_
    refine V.run 20 rfl ?_
    exact V.ri rfl ⟨rfl, a, v, rfl, hr⟩
  · obtain ⟨i, m, hi, rfl, hx, rfl, hjm, hm, hf, hs, hN, hj⟩ := fl_ok hB hI hq
    rw [hq]
    refine V.run 20 rfl ?_
    refine V.brF rfl rfl (fun h => h i0_eq0) ?_
    refine V.run 20 rfl ?_
    refine V.ialE rfl rfl rfl hi (by omega) ((hr.2.2.2.2.1 i hi).trans hx) ?_
    refine V.run 20 rfl ?_
    refine V.cv rfl (c_write hB (show q.1 + 1 + q.2 < 32 * B by omega)) rfl rfl ?_
    rintro _ _ ⟨rfl, rfl⟩
    refine V.run 20 rfl ?_
    exact V.ri rfl ⟨rfl, _, _, rfl, hr.upKV (q.1 + 1 + q.2) (nI 0) z⟩
end CP
end
section
section CP2
variable {B : Nat} {a : Nat → Nat → Int32} {v : Nat → Int32} {r : xW}
theorem c_link (hB : B ≤ 16) {n : Nat} {s : AS} (hI : Inv B n s) (hr : RepC B a v s) (root field to wk : Int32) : Tot none kX4_link [.ref 0, .int root, .int field, .int to, .int wk] (wC B a v r) (rC B r (opLink s root field to wk)) := by
  refine eX4_link ?_
  refine V.run 20 rfl ?_
  refine V.cv rfl (c_fieldFault hB hI hr root field) rfl rfl ?_
  rintro _ _ ⟨rfl, rfl⟩
  refine V.run 20 rfl ?_
  unfold opLink
  rcases ixN_or (n := 16) (by omega) to with ⟨hbad, e⟩ | ⟨t, ht, rfl, e⟩
  · rw [e]
    refine V.br rfl rfl (fun h => ?_) (fun h => ?_)
    · refine V.run 20 rfl ?_
      exact V.ri rfl ⟨rfl, a, v, rfl, hr⟩
    · refine V.run 20 rfl ?_
      refine V.cs rfl (c_isRoot0 hbad) rfl ?_
      rintro _ _ ⟨rfl, rfl⟩
      refine V.brF rfl rfl (fun h => h i0_eq0) ?_
      refine V.run 20 rfl ?_
      exact V.ri rfl ⟨rfl, a, v, rfl, hr⟩
  · rw [e]
    rcases fl_code hI root field with ⟨e2, he, h23⟩ | ⟨q, hq⟩
    · rw [he]
      rcases h23 with rfl | rfl
      · refine V.brT rfl rfl rfl ?_
        refine V.run 20 rfl ?_
        exact V.ri rfl ⟨rfl, a, v, rfl, hr⟩
      · refine V.brF rfl rfl (by decide) ?_
        refine V.run 20 rfl ?_
        refine V.cs rfl (c_isRoot1 ht) rfl ?_
        rintro _ _ ⟨rfl, rfl⟩
        refine V.brT rfl rfl i1_ne0 ?_
        refine V.run 20 rfl ?_
        refine V.brT rfl rfl rfl ?_
        refine V.run 20 rfl ?_
        exact V.ri rfl ⟨rfl, a, v, rfl, hr⟩
    · obtain ⟨i, m, hi, rfl, hx, rfl, hjm, hm, hf, hs, hN, hj⟩ := fl_ok hB hI hq
      rw [hq]
      refine V.brF rfl rfl (show ¬ nI 0 = -2 by decide) ?_
      refine V.run 20 rfl ?_
      refine V.cs rfl (c_isRoot1 ht) rfl ?_
      rintro _ _ ⟨rfl, rfl⟩
      refine V.brT rfl rfl i1_ne0 ?_
      refine V.run 20 rfl ?_
      refine V.brF rfl rfl (show ¬ nI 0 = -3 by decide) ?_
      refine V.run 20 rfl ?_
      refine V.ialE rfl rfl rfl ht (by omega) (hr.2.2.2.2.1 t ht) ?_
      refine V.run 20 rfl ?_
      dsimp only
      by_cases h0 : sR s t = -1
      · refine V.brF rfl rfl (fun h => h h0) ?_
        refine V.run 20 rfl ?_
        exact V.ri rfl ⟨by rw [if_pos h0], a, v, rfl, by rw [if_pos h0]; exact hr⟩
      · rw [if_neg h0]
        refine V.brT rfl rfl h0 ?_
        refine V.run 20 rfl ?_
        refine V.ialE rfl rfl rfl hi (by omega) ((hr.2.2.2.2.1 i hi).trans hx) ?_
        refine V.run 20 rfl ?_
        refine V.br rfl rfl (fun h => ?_) (fun h => ?_)
        · rw [if_pos h]
          refine V.run 20 rfl ?_
          refine V.ialE rfl rfl rfl ht (by omega) (hr.2.2.2.2.1 t ht) ?_
          refine V.cv rfl (c_write hB (show q.1 + 1 + q.2 < 32 * B by omega)) rfl rfl ?_
          rintro _ _ ⟨rfl, rfl⟩
          refine V.run 20 rfl ?_
          exact V.ri rfl ⟨rfl, _, _, rfl, hr.upKV (q.1 + 1 + q.2) (nI 1) (sR s t)⟩
        · rw [if_neg h]
          refine V.run 20 rfl ?_
          refine V.ialE rfl rfl rfl ht (by omega) (hr.2.2.2.2.1 t ht) ?_
          refine V.cv rfl (c_write hB (show q.1 + 1 + q.2 < 32 * B by omega)) rfl rfl ?_
          rintro _ _ ⟨rfl, rfl⟩
          refine V.run 20 rfl ?_
          exact V.ri rfl ⟨rfl, _, _, rfl, hr.upKV (q.1 + 1 + q.2) (nI 2) (sR s t)⟩
theorem c_refers (hB : B ≤ 16) {n : Nat} {s : AS} (hI : Inv B n s) (hr : RepC B a v s) (root field : Int32) : Tot none kX4_refers [.ref 0, .int root, .int field] (wC B a v r) (rI (opRefers s root field) (wC B a v r)) := by
  refine eX4_refers ?_
  refine V.run 20 rfl ?_
  refine V.cv rfl (c_fieldFault hB hI hr root field) rfl rfl ?_
  rintro _ _ ⟨rfl, rfl⟩
  unfold opRefers
  rcases fl_code hI root field with ⟨e, he, h23⟩ | ⟨q, hq⟩
  · rw [he]
    refine V.run 20 rfl ?_
    refine V.brT rfl rfl (by rcases h23 with rfl | rfl <;> decide) ?_
    refine V.run 20 rfl ?_
    exact V.ri rfl ⟨rfl, rfl⟩
  · obtain ⟨i, m, hi, rfl, hx, rfl, hjm, hm, hf, hs, hN, hj⟩ := fl_ok hB hI hq
    rw [hq]
    refine V.run 20 rfl ?_
    refine V.brF rfl rfl (fun h => h i0_eq0) ?_
    refine V.run 20 rfl ?_
    refine V.ialE rfl rfl rfl hi (by omega) ((hr.2.2.2.2.1 i hi).trans hx) ?_
    refine V.run 20 rfl ?_
    refine V.cv rfl (c_kindOfE hB (show q.1 + 1 + q.2 < 32 * B by omega) (hr.2.2.1 _ (by omega))) rfl rfl ?_
    rintro _ _ ⟨rfl, rfl⟩
    refine V.run 20 rfl ?_
    exact V.ri rfl ⟨rfl, rfl⟩
theorem c_number (hB : B ≤ 16) {n : Nat} {s : AS} (hI : Inv B n s) (hr : RepC B a v s) (root field : Int32) : Tot none kX4_number [.ref 0, .int root, .int field] (wC B a v r) (rI (opNumber s root field) (wC B a v r)) := by
  refine eX4_number ?_
  refine V.run 20 rfl ?_
  refine V.cv rfl (c_fieldFault hB hI hr root field) rfl rfl ?_
  rintro _ _ ⟨rfl, rfl⟩
  unfold opNumber
  rcases fl_code hI root field with ⟨e, he, h23⟩ | ⟨q, hq⟩
  · rw [he]
    refine V.brT rfl rfl (by rcases h23 with rfl | rfl <;> decide) ?_
    refine V.run 20 rfl ?_
    exact V.ri rfl ⟨rfl, rfl⟩
  · obtain ⟨i, m, hi, rfl, hx, rfl, hjm, hm, hf, hs, hN, hj⟩ := fl_ok hB hI hq
    rw [hq]
    refine V.brF rfl rfl (fun h => h i0_eq0) ?_
    refine V.run 20 rfl ?_
    refine V.ialE rfl rfl rfl hi (by omega) ((hr.2.2.2.2.1 i hi).trans hx) ?_
    refine V.run 20 rfl ?_
    refine V.cv rfl (c_kindOfE hB (show q.1 + 1 + q.2 < 32 * B by omega) (hr.2.2.1 _ (by omega))) rfl rfl ?_
    rintro _ _ ⟨rfl, rfl⟩
    refine V.br rfl rfl (fun h => ?_) (fun h => ?_)
    · refine V.run 20 rfl ?_
      refine V.ialE rfl rfl rfl hi (by omega) ((hr.2.2.2.2.1 i hi).trans hx) ?_
      refine V.run 20 rfl ?_
      refine V.cv rfl (c_valueOfE hB (show q.1 + 1 + q.2 < 32 * B by omega) (hr.2.2.2.1 _ (by omega))) rfl rfl ?_
      rintro _ _ ⟨rfl, rfl⟩
      exact V.ri rfl ⟨by dsimp only; rw [if_pos h], rfl⟩
    · refine V.run 20 rfl ?_
      exact V.ri rfl ⟨by dsimp only; rw [if_neg h], rfl⟩
theorem nmO_C (hB : B ≤ 16) {n : Nat} {s : AS} (hI : Inv B n s) (hr : RepC B a v s) {z : Int32} (hz : z = -1 ∨ ∃ x, z = nI x ∧ safe B s x) {a' : Nat → Nat → Int32} {v' : Nat → Int32} (h0 : a' 0 = a 0) : Tot none kX2_nameAt [.ref 1, .int z] (wC B a' v' r) (rI (nmO s z) (wC B a' v' r)) := by
  unfold nmO
  rcases hz with rfl | ⟨x, rfl, hs⟩
  · rw [if_pos rfl]; exact c_nameAt0
  · have hx := hs.1
    rw [if_neg (nI_m1 (by omega)), nI_clamp (by omega)]
    exact c_nameAtE hB hx (by rw [h0]; exact hr.1.1 x hx)
theorem c_load (hB : B ≤ 16) {n : Nat} {s : AS} (hI : Inv B n s) (hr : RepC B a v s) (root frm field : Int32) : Tot none kX4_load [.ref 0, .int root, .int frm, .int field] (wC B a v r) (rC B r (opLoad s root frm field)) := by
  refine eX4_load ?_
  refine V.run 20 rfl ?_
  refine V.cv rfl (c_fieldFault hB hI hr frm field) rfl rfl ?_
  rintro _ _ ⟨rfl, rfl⟩
  refine V.run 20 rfl ?_
  unfold opLoad
  rcases ixN_or (n := 16) (by omega) root with ⟨hbad, e⟩ | ⟨t, ht, rfl, e⟩
  · rw [e]
    refine V.br rfl rfl (fun h => ?_) (fun h => ?_)
    · refine V.run 20 rfl ?_
      exact V.ri rfl ⟨rfl, a, v, rfl, hr⟩
    · refine V.run 20 rfl ?_
      refine V.cs rfl (c_isRoot0 hbad) rfl ?_
      rintro _ _ ⟨rfl, rfl⟩
      refine V.brF rfl rfl (fun h => h i0_eq0) ?_
      refine V.run 20 rfl ?_
      exact V.ri rfl ⟨rfl, a, v, rfl, hr⟩
  · rw [e]
    rcases fl_code hI frm field with ⟨e2, he, h23⟩ | ⟨q, hq⟩
    · rw [he]
      rcases h23 with rfl | rfl
      · refine V.brT rfl rfl rfl ?_
        refine V.run 20 rfl ?_
        exact V.ri rfl ⟨rfl, a, v, rfl, hr⟩
      · refine V.brF rfl rfl (by decide) ?_
        refine V.run 20 rfl ?_
        refine V.cs rfl (c_isRoot1 ht) rfl ?_
        rintro _ _ ⟨rfl, rfl⟩
        refine V.brT rfl rfl i1_ne0 ?_
        refine V.run 20 rfl ?_
        refine V.brT rfl rfl rfl ?_
        refine V.run 20 rfl ?_
        exact V.ri rfl ⟨rfl, a, v, rfl, hr⟩
    · obtain ⟨i, m, hi, rfl, hx, rfl, hjm, hm, hf, hs, hN, hj⟩ := fl_ok hB hI hq
      rw [hq]
      refine V.brF rfl rfl (show ¬ nI 0 = -2 by decide) ?_
      refine V.run 20 rfl ?_
      refine V.cs rfl (c_isRoot1 ht) rfl ?_
      rintro _ _ ⟨rfl, rfl⟩
      refine V.brT rfl rfl i1_ne0 ?_
      refine V.run 20 rfl ?_
      refine V.brF rfl rfl (show ¬ nI 0 = -3 by decide) ?_
      refine V.run 20 rfl ?_
      refine V.ialE rfl rfl rfl hi (by omega) ((hr.2.2.2.2.1 i hi).trans hx) ?_
      refine V.run 20 rfl ?_
      refine V.cv rfl (c_kindOfE hB (show q.1 + 1 + q.2 < 32 * B by omega) (hr.2.2.1 _ (by omega))) rfl rfl ?_
      rintro _ _ ⟨rfl, rfl⟩
      dsimp only
      by_cases h0 : sD s (q.1 + 1 + q.2) = 0
      · rw [if_pos h0]
        refine V.brF rfl rfl (fun h => h h0) ?_
        refine V.run 20 rfl ?_
        exact V.ri rfl ⟨rfl, a, v, rfl, hr⟩
      · rw [if_neg h0]
        refine V.brT rfl rfl h0 ?_
        refine V.run 20 rfl ?_
        refine V.ialE rfl rfl rfl hi (by omega) ((hr.2.2.2.2.1 i hi).trans hx) ?_
        refine V.run 20 rfl ?_
        refine V.cv rfl (c_valueOfE hB (show q.1 + 1 + q.2 < 32 * B by omega) (hr.2.2.2.1 _ (by omega))) rfl rfl ?_
        rintro _ _ ⟨rfl, rfl⟩
        refine V.iast (w' := wC B (uA a 12 t (sV s (q.1 + 1 + q.2))) v r) rfl rfl rfl ht (by omega) rfl ?_
        refine V.run 20 rfl ?_
        refine V.ialE rfl rfl rfl ht (by omega) (show upd (a 12) t _ t = _ from upd_s) ?_
        have hz : ∃ y, sV s (q.1 + 1 + q.2) = nI y ∧ safe B s y := by
          obtain ⟨-, -, m', hm', hf', -, hj'⟩ := hI.2.1 q.1 hs
          have : m' = m := nI_inj (by omega) (by omega) (hf'.symm.trans hf)
          subst this
          rcases hj' q.2 hjm with h | ⟨-, h⟩
          · exact absurd h h0
          · exact h
        refine V.cv rfl (nmO_C hB hI hr (Or.inr hz) rfl) rfl rfl ?_
        rintro _ _ ⟨rfl, rfl⟩
        exact V.ri rfl ⟨rfl, _, _, rfl, hr.upR t _⟩
theorem c_copy (hB : B ≤ 16) {n : Nat} {s : AS} (hI : Inv B n s) (hr : RepC B a v s) (root frm : Int32) : Tot none kX4_copy [.ref 0, .int root, .int frm] (wC B a v r) (rC B r (opCopy s root frm)) := by
  refine eX4_copy ?_
  refine V.run 20 rfl ?_
  unfold opCopy
  rcases ixN_or (n := 16) (by omega) root with ⟨hbad, e⟩ | ⟨i, hi, rfl, e⟩
  · rw [e]
    refine V.cs rfl (c_isRoot0 hbad) rfl ?_
    rintro _ _ ⟨rfl, rfl⟩
    refine V.brT rfl rfl i0_eq0 ?_
    refine V.run 20 rfl ?_
    exact V.ri rfl ⟨rfl, a, v, rfl, hr⟩
  · rw [e]
    refine V.cs rfl (c_isRoot1 hi) rfl ?_
    rintro _ _ ⟨rfl, rfl⟩
    refine V.brF rfl rfl i1_ne0 ?_
    refine V.run 20 rfl ?_
    rcases ixN_or (n := 16) (by omega) frm with ⟨hbad, e2⟩ | ⟨j, hj, rfl, e2⟩
    · rw [e2]
      refine V.cs rfl (c_isRoot0 hbad) rfl ?_
      rintro _ _ ⟨rfl, rfl⟩
      refine V.brF rfl rfl (fun h => h i0_eq0) ?_
      refine V.run 20 rfl ?_
      exact V.ri rfl ⟨rfl, a, v, rfl, hr⟩
    · rw [e2]
      refine V.cs rfl (c_isRoot1 hj) rfl ?_
      rintro _ _ ⟨rfl, rfl⟩
      refine V.brT rfl rfl i1_ne0 ?_
      refine V.run 20 rfl ?_
      refine V.ialE rfl rfl rfl hj (by omega) (hr.2.2.2.2.1 j hj) ?_
      refine V.iast (w' := wC B (uA a 12 i (sR s j)) v r) rfl rfl rfl hi (by omega) rfl ?_
      refine V.run 20 rfl ?_
      refine V.ialE rfl rfl rfl hi (by omega) (show upd (a 12) i _ i = _ from upd_s) ?_
      refine V.cv rfl (nmO_C hB hI hr (hI.2.2.1 j hj) rfl) rfl rfl ?_
      rintro _ _ ⟨rfl, rfl⟩
      exact V.ri rfl ⟨rfl, _, _, rfl, hr.upR i _⟩
theorem c_drop (hB : B ≤ 16) {n : Nat} {s : AS} (hI : Inv B n s) (hr : RepC B a v s) (root : Int32) : Tot none kX4_drop [.ref 0, .int root] (wC B a v r) (rC B r (opDrop s root)) := by
  refine eX4_drop ?_
  refine V.run 20 rfl ?_
  unfold opDrop
  rcases ixN_or (n := 16) (by omega) root with ⟨hbad, e⟩ | ⟨i, hi, rfl, e⟩
  · rw [e]
    refine V.cs rfl (c_isRoot0 hbad) rfl ?_
    rintro _ _ ⟨rfl, rfl⟩
    refine V.brF rfl rfl (fun h => h i0_eq0) ?_
    refine V.run 20 rfl ?_
    exact V.ri rfl ⟨rfl, a, v, rfl, hr⟩
  · rw [e]
    refine V.cs rfl (c_isRoot1 hi) rfl ?_
    rintro _ _ ⟨rfl, rfl⟩
    refine V.brT rfl rfl i1_ne0 ?_
    refine V.run 20 rfl ?_
    refine V.ialE rfl rfl rfl hi (by omega) (hr.2.2.2.2.1 i hi) ?_
    refine V.run 20 rfl ?_
    refine V.br rfl rfl (fun h => ?_) (fun h => ?_)
    · refine V.run 20 rfl ?_
      refine V.cs rfl c_oneIf0 rfl ?_
      rintro _ _ ⟨rfl, rfl⟩
      refine V.run 20 rfl ?_
      refine V.iast (w' := wC B (uA a 12 i (-1)) v r) rfl rfl rfl hi (by omega) rfl ?_
      refine V.run 20 rfl ?_
      exact V.ri rfl ⟨by dsimp only; rw [if_pos h], _, _, rfl, hr.upR i _⟩
    · refine V.run 20 rfl ?_
      refine V.cs rfl c_oneIf1 rfl ?_
      rintro _ _ ⟨rfl, rfl⟩
      refine V.run 20 rfl ?_
      refine V.iast (w' := wC B (uA a 12 i (-1)) v r) rfl rfl rfl hi (by omega) rfl ?_
      refine V.run 20 rfl ?_
      exact V.ri rfl ⟨by dsimp only; rw [if_neg h], _, _, rfl, hr.upR i _⟩
theorem c_watch (hB : B ≤ 16) {n : Nat} {s : AS} (hI : Inv B n s) (hr : RepC B a v s) (root on : Int32) (hon : on = 0 ∨ on = 1) : Tot none kX4_watch [.ref 0, .int root, .int on] (wC B a v r) (rC B r (opWatch s root on)) := by
  refine eX4_watch ?_
  refine V.run 20 rfl ?_
  unfold opWatch
  rcases ixN_or (n := 16) (by omega) root with ⟨hbad, e⟩ | ⟨i, hi, rfl, e⟩
  · rw [e]
    refine V.cv rfl (c_rootFault0 hbad) rfl rfl ?_
    rintro _ _ ⟨rfl, rfl⟩
    refine V.run 20 rfl ?_
    refine V.brF rfl rfl (by decide) ?_
    refine V.run 20 rfl ?_
    exact V.ri rfl ⟨rfl, a, v, rfl, hr⟩
  · rw [e]
    dsimp only
    have h12 := hr.2.2.2.2.1 i hi
    rcases hI.2.2.1 i hi with h0 | ⟨x, hx, hs⟩
    · rw [if_pos h0]
      refine V.cv rfl (c_rootFault1 hi (h12.trans h0)) rfl rfl ?_
      rintro _ _ ⟨rfl, rfl⟩
      refine V.run 20 rfl ?_
      refine V.brF rfl rfl (by decide) ?_
      refine V.run 20 rfl ?_
      exact V.ri rfl ⟨rfl, a, v, rfl, hr⟩
    · have hxN := hs.1
      have h01 := hI.2.2.2.2.1.1 x hxN
      rw [hx, if_neg (nI_m1 (by omega)), nI_clamp (by omega)]
      refine V.cv rfl (c_rootFault2 hi (h12.trans hx) (by omega)) rfl rfl ?_
      rintro _ _ ⟨rfl, rfl⟩
      refine V.run 20 rfl ?_
      refine V.brT rfl rfl i0_eq0 ?_
      refine V.run 20 rfl ?_
      refine V.ialE rfl rfl rfl hi (by omega) (h12.trans hx) ?_
      refine V.cv rfl (c_isWatchedE hB hxN (hr.1.2.1 x hxN) h01) rfl rfl ?_
      rintro _ _ ⟨rfl, rfl⟩
      refine V.cs rfl (c_oneIfz h01) rfl ?_
      rintro _ _ ⟨rfl, rfl⟩
      refine V.run 20 rfl ?_
      refine V.ialE rfl rfl rfl hi (by omega) (h12.trans hx) ?_
      refine V.run 20 rfl ?_
      refine V.cv rfl (c_setWatched hB hxN hon) rfl rfl ?_
      rintro _ _ ⟨rfl, rfl⟩
      refine V.run 20 rfl ?_
      obtain ⟨⟨k1, k2, k3, k4, k5⟩, h2, h3, h4, h5, h6, h7, h8, h9⟩ := hr
      refine V.ri rfl ⟨rfl, _, _, rfl, ⟨k1, fun w hw => ?_, k3, k4, k5⟩, h2, h3, h4, h5, h6, h7, h8, h9⟩
      show upd (a 2) x on w = upd (sK s).2.1 x on w
      by_cases q : w = x
      · subst q; rw [upd_s, upd_s]
      · rw [upd_n q, upd_n q]; exact k2 w hw
theorem c_next (hB : B ≤ 16) {n : Nat} {s : AS} (hI : Inv B n s) (hr : RepC B a v s) (root : Int32) : Tot none kX4_next [.ref 0, .int root] (wC B a v r) (rC B r (opNext s root)) := by
  refine eX4_next ?_
  refine V.run 20 rfl ?_
  unfold opNext
  rcases ixN_or (n := 16) (by omega) root with ⟨hbad, e⟩ | ⟨i, hi, rfl, e⟩
  · rw [e]
    refine V.cs rfl (c_isRoot0 hbad) rfl ?_
    rintro _ _ ⟨rfl, rfl⟩
    refine V.brF rfl rfl (fun h => h i0_eq0) ?_
    refine V.run 20 rfl ?_
    exact V.ri rfl ⟨rfl, a, v, rfl, hr⟩
  · rw [e]
    refine V.cs rfl (c_isRoot1 hi) rfl ?_
    rintro _ _ ⟨rfl, rfl⟩
    refine V.brT rfl rfl i1_ne0 ?_
    refine V.run 20 rfl ?_
    have hq := hr.2.2.2.2.2.1
    have hqG := hI.2.2.2.1
    have hql := hqG.len hI.2.1
    cases hQ : sQ s with
    | nil =>
      rw [hQ] at hq
      refine V.cv rfl (c_takeFirst0 hq.1) rfl rfl ?_
      rintro _ _ ⟨rfl, rfl⟩
      refine V.run 20 rfl ?_
      refine V.brF rfl rfl (fun h => h rfl) ?_
      refine V.run 20 rfl ?_
      exact V.ri rfl ⟨rfl, a, v, rfl, hr⟩
    | cons x q =>
      rw [hQ] at hq hqG hql
      have hxs := hqG.2 x List.mem_cons_self
      have hxN := hxs.1
      refine V.cv rfl (c_takeFirst hB hq hql) rfl rfl ?_
      rintro _ _ ⟨rfl, f, n', rfl, hq'⟩
      refine V.run 20 rfl ?_
      refine V.brT rfl rfl (nI_m1 (by omega)) ?_
      refine V.run 20 rfl ?_
      refine V.iast (w' := wC B (uA (setA a 9 f) 12 i (nI x)) (uV v 6 n') r) rfl rfl rfl hi (by omega) rfl ?_
      refine V.run 20 rfl ?_
      refine V.cv rfl (c_nameAtE hB hxN (by exact hr.1.1 x hxN)) rfl rfl ?_
      rintro _ _ ⟨rfl, rfl⟩
      obtain ⟨h1, h2, h3, h4, h5, h6, h7, h8, h9⟩ := hr
      refine V.ri rfl ⟨rfl, _, _, rfl, h1, h2, h3, h4, fun w hw => ?_, hq', h7, h8, h9⟩
      show upd (a 12) i (nI x) w = upd (sR s) i (nI x) w
      by_cases q : w = i
      · subst q; rw [upd_s, upd_s]
      · rw [upd_n q, upd_n q]; exact h5 w hw
theorem c_same (hB : B ≤ 16) {n : Nat} {s : AS} (hI : Inv B n s) (hr : RepC B a v s) (one other : Int32) : Tot none kX4_same [.ref 0, .int one, .int other] (wC B a v r) (rI (opSame s one other) (wC B a v r)) := by
  refine eX4_same ?_
  refine V.run 20 rfl ?_
  unfold opSame
  rcases ixN_or (n := 16) (by omega) one with ⟨hbad, e⟩ | ⟨i, hi, rfl, e⟩
  · rw [e]
    refine V.cs rfl (c_isRoot0 hbad) rfl ?_
    rintro _ _ ⟨rfl, rfl⟩
    refine V.brT rfl rfl i0_eq0 ?_
    refine V.run 20 rfl ?_
    exact V.ri rfl ⟨rfl, rfl⟩
  · rw [e]
    refine V.cs rfl (c_isRoot1 hi) rfl ?_
    rintro _ _ ⟨rfl, rfl⟩
    refine V.brF rfl rfl i1_ne0 ?_
    refine V.run 20 rfl ?_
    rcases ixN_or (n := 16) (by omega) other with ⟨hbad, e2⟩ | ⟨j, hj, rfl, e2⟩
    · rw [e2]
      refine V.cs rfl (c_isRoot0 hbad) rfl ?_
      rintro _ _ ⟨rfl, rfl⟩
      refine V.brF rfl rfl (fun h => h i0_eq0) ?_
      refine V.run 20 rfl ?_
      exact V.ri rfl ⟨rfl, rfl⟩
    · rw [e2]
      refine V.cs rfl (c_isRoot1 hj) rfl ?_
      rintro _ _ ⟨rfl, rfl⟩
      refine V.brT rfl rfl i1_ne0 ?_
      refine V.run 20 rfl ?_
      refine V.ialE rfl rfl rfl hi (by omega) (hr.2.2.2.2.1 i hi) ?_
      refine V.run 20 rfl ?_
      refine V.ialE rfl rfl rfl hj (by omega) (hr.2.2.2.2.1 j hj) ?_
      refine V.br rfl rfl (fun h => ?_) (fun h => ?_)
      · refine V.run 20 rfl ?_
        refine V.cs rfl c_oneIf0 rfl ?_
        rintro _ _ ⟨rfl, rfl⟩
        exact V.ri rfl ⟨by dsimp only; rw [if_neg h], rfl⟩
      · refine V.run 20 rfl ?_
        refine V.cs rfl c_oneIf1 rfl ?_
        rintro _ _ ⟨rfl, rfl⟩
        exact V.ri rfl ⟨by dsimp only; rw [if_pos (Decidable.not_not.mp h)], rfl⟩
end CP2
end
section
section CP3
variable {B : Nat} {a : Nat → Nat → Int32} {v : Nat → Int32} {r : xW}
theorem c_classFor {w : xW} {m : Nat} (hm : m ≤ 15) : Tot none kX4_classFor [.int (nI m)] w (rI (nI (clsF m)) w) := by
  have step : ∀ (c : Nat), c < 3 → (m + 1 ≤ cwd c → clsF m = c) → (cwd c < m + 1 → V none 72 (rI (nI (clsF m)) w) (0, 0) 4 [(0, .int (nI m)), (1, .int (nI (c + 1)))] [.int (nI 3), .int (nI (c + 1))] w) → V none 72 (rI (nI (clsF m)) w) (0, 0) 4 [(0, .int (nI m)), (1, .int (nI c))] [.int (nI 3), .int (nI c)] w := by
    intro c hc h1 h2
    have hcw := cwd_le c (by omega)
    refine V.brF rfl rfl (nI_ge hc (by omega)) ?_
    refine V.run 20 rfl ?_
    refine V.cs rfl (c_cellWords (show c < 4 by omega)) rfl ?_
    rintro _ _ ⟨rfl, rfl⟩
    refine V.run 20 rfl ?_
    rw [nI_add]
    by_cases q : m + 1 ≤ cwd c
    · refine V.brT rfl rfl (nI_le q (by omega)) ?_
      refine V.run 20 rfl ?_
      exact V.ri rfl ⟨by rw [h1 q], rfl⟩
    · refine V.brF rfl rfl (nI_ge (by omega) (by omega)) ?_
      refine V.run 20 rfl ?_
      rw [nI_add]
      exact h2 (by omega)
  refine eX4_classFor ?_
  refine V.run 20 rfl ?_
  refine step 0 (by omega) (fun q => by have e : cwd 0 = 2 := rfl; rw [clsF, if_pos (by omega)]) (fun q0 => ?_)
  have e0 : cwd 0 = 2 := rfl
  refine step 1 (by omega) (fun q => by have e : cwd 1 = 4 := rfl; rw [clsF, if_neg (by omega), if_pos (by omega)]) (fun q1 => ?_)
  have e1 : cwd 1 = 4 := rfl
  refine step 2 (by omega) (fun q => by have e : cwd 2 = 8 := rfl; rw [clsF, if_neg (by omega), if_neg (by omega), if_pos (by omega)]) (fun q2 => ?_)
  have e2 : cwd 2 = 8 := rfl
  refine V.brT rfl rfl (nI_le (Nat.le_refl 3) (by omega)) ?_
  refine V.run 20 rfl ?_
  exact V.ri rfl ⟨by rw [clsF, if_neg (by omega), if_neg (by omega), if_neg (by omega)], rfl⟩
theorem c_object (hB : B ≤ 16) {n : Nat} {s : AS} (hI : Inv B n s) (hr : RepC B a v s) (root what : Int32) : Tot none kX4_object [.ref 0, .int root, .int what] (wC B a v r) (rI (opObject s root what) (wC B a v r)) := by
  refine eX4_object ?_
  unfold opObject
  rcases ixN_or (n := 6) (by omega) what with ⟨hbad, e⟩ | ⟨k, hk, rfl, e⟩
  · rw [e]
    refine V.run 20 rfl ?_
    refine V.br rfl rfl (fun h => ?_) (fun h => ?_)
    · refine V.run 20 rfl ?_
      exact V.ri rfl ⟨rfl, rfl⟩
    · refine V.run 20 rfl ?_
      have h6 := hbad.resolve_left h
      refine V.brF rfl rfl (fun q => by
        rw [Int32.le_iff_toInt_le] at h6 q
        rw [nI_toInt (by omega)] at h6 q
        omega) ?_
      refine V.run 20 rfl ?_
      exact V.ri rfl ⟨rfl, rfl⟩
  · rw [e]
    refine V.run 20 rfl ?_
    refine V.brF rfl rfl (nI_pos (by omega)) ?_
    refine V.run 20 rfl ?_
    refine V.brT rfl rfl (nI_le (by omega) (by omega)) ?_
    refine V.run 20 rfl ?_
    rcases ixN_or (n := 16) (by omega) root with ⟨hbad, e2⟩ | ⟨i, hi, rfl, e2⟩
    · rw [e2]
      refine V.cv rfl (c_rootFault0 hbad) rfl rfl ?_
      rintro _ _ ⟨rfl, rfl⟩
      refine V.run 20 rfl ?_
      refine V.brT rfl rfl (by decide) ?_
      refine V.run 20 rfl ?_
      exact V.ri rfl ⟨rfl, rfl⟩
    · rw [e2]
      dsimp only
      have h12 := hr.2.2.2.2.1 i hi
      rcases hI.2.2.1 i hi with h0 | ⟨x, hx, hs⟩
      · rw [if_pos h0]
        refine V.cv rfl (c_rootFault1 hi (h12.trans h0)) rfl rfl ?_
        rintro _ _ ⟨rfl, rfl⟩
        refine V.run 20 rfl ?_
        refine V.brT rfl rfl (by decide) ?_
        refine V.run 20 rfl ?_
        exact V.ri rfl ⟨rfl, rfl⟩
      · have hxN := hs.1
        obtain ⟨m, hm, hf, hcl⟩ := hI.2.2.2.2.2.2.2 x hxN hs.2.1
        have h01 := hI.2.2.2.2.1.1 x hxN
        have hfa := (hr.2.1 x hxN hs.2.1).trans hf
        rw [hx, if_neg (nI_m1 (by omega)), nI_clamp (by omega)]
        refine V.cv rfl (c_rootFault2 hi (h12.trans hx) (by omega)) rfl rfl ?_
        rintro _ _ ⟨rfl, rfl⟩
        refine V.run 20 rfl ?_
        refine V.brF rfl rfl (fun h => h i0_eq0) ?_
        refine V.run 20 rfl ?_
        refine V.ialE rfl rfl rfl hi (by omega) (h12.trans hx) ?_
        refine V.run 20 rfl ?_
        refine V.cv rfl (Qj := rI (if k = 0 then (sK s).1 x else if k = 1 then nI x else if k = 2 then sF s x else if k = 3 then (sK s).2.2.1 (x / 32) else if k = 4 then (sK s).2.1 x else if sB s x = true then nI 1 else nI 0) (wC B a v r)) (eX4_tell ?_) rfl rfl ?_
        · refine V.run 20 rfl ?_
          rcases (show k = 0 ∨ k = 1 ∨ k = 2 ∨ k = 3 ∨ k = 4 ∨ k = 5 by omega) with rfl | rfl | rfl | rfl | rfl | rfl
          · refine V.tableIn (tgt := 36) rfl (by decide) (by decide) rfl rfl ?_
            refine V.run 20 rfl ?_
            refine V.cv rfl (c_nameAtE hB hxN (hr.1.1 x hxN)) rfl rfl ?_
            rintro _ _ ⟨rfl, rfl⟩
            exact V.ri rfl ⟨rfl, rfl⟩
          · refine V.tableIn (tgt := 45) rfl (by decide) (by decide) rfl rfl ?_
            refine V.run 20 rfl ?_
            exact V.ri rfl ⟨rfl, rfl⟩
          · refine V.tableIn (tgt := 47) rfl (by decide) (by decide) rfl rfl ?_
            refine V.run 20 rfl ?_
            refine V.cv rfl (c_fieldsOfE hB hxN (hr.2.1 x hxN hs.2.1)) rfl rfl ?_
            rintro _ _ ⟨rfl, rfl⟩
            exact V.ri rfl ⟨rfl, rfl⟩
          · refine V.tableIn (tgt := 56) rfl (by decide) (by decide) rfl rfl ?_
            refine V.run 20 rfl ?_
            refine V.cv rfl (c_fieldsOfE hB hxN hfa) rfl rfl ?_
            rintro _ _ ⟨rfl, rfl⟩
            refine V.cs rfl (c_classFor hm) rfl ?_
            rintro _ _ ⟨rfl, rfl⟩
            exact V.ri rfl ⟨congrArg (fun z => some (Value.int z)) hcl.symm, rfl⟩
          · refine V.tableIn (tgt := 68) rfl (by decide) (by decide) rfl rfl ?_
            refine V.run 20 rfl ?_
            refine V.cv rfl (c_isWatchedE hB hxN (hr.1.2.1 x hxN) h01) rfl rfl ?_
            rintro _ _ ⟨rfl, rfl⟩
            refine V.cs rfl (c_oneIfz h01) rfl ?_
            rintro _ _ ⟨rfl, rfl⟩
            exact V.ri rfl ⟨rfl, rfl⟩
          · refine V.tableOut (tgt := 80) rfl (Or.inr (by decide)) rfl ?_
            refine V.run 20 rfl ?_
            have hmk := hr.2.2.2.2.2.2.2.2 x hxN
            by_cases q : a 6 x = -1
            · have hsb : sB s x = false := by rw [← hmk]; simp [mkB, q]
              refine V.cv rfl (c_whas0 false hB hxN q) rfl rfl ?_
              rintro _ _ ⟨rfl, rfl⟩
              refine V.cs rfl c_oneIf0 rfl ?_
              rintro _ _ ⟨rfl, rfl⟩
              exact V.ri rfl ⟨by rw [hsb]; rfl, rfl⟩
            · have hsb : sB s x = true := by rw [← hmk]; simp [mkB, q]
              refine V.cv rfl (c_whas1 false hB hxN q) rfl rfl ?_
              rintro _ _ ⟨rfl, rfl⟩
              refine V.cs rfl c_oneIf1 rfl ?_
              rintro _ _ ⟨rfl, rfl⟩
              exact V.ri rfl ⟨by rw [hsb]; rfl, rfl⟩
        · rintro _ _ ⟨rfl, rfl⟩
          refine V.run 20 rfl ?_
          exact V.ri rfl ⟨rfl, rfl⟩
theorem c_sweep (hB : B ≤ 16) {n : Nat} {s : AS} (hI : Inv B n s) (hr : RepC B a v s) : Tot none kX4_sweep [.ref 0] (wC B a v r) (rC B r (opSweep B s)) := by
  refine eX4_sweep ?_
  refine V.run 20 rfl ?_
  refine V.cv rfl (c_firstUnswept hB hI.1 hr.1) rfl rfl ?_
  rintro _ _ ⟨rfl, rfl⟩
  refine V.run 20 rfl ?_
  unfold opSweep
  cases h : ff (fun b => decide ((sK s).2.2.2.1 b = 1)) B 0 with
  | none =>
    refine V.cv rfl c_clean0 rfl rfl ?_
    rintro _ _ ⟨rfl, rfl⟩
    refine V.run 20 rfl ?_
    exact V.ri rfl ⟨rfl, a, v, rfl, hr⟩
  | some b =>
    obtain ⟨-, hb, hp, -⟩ := ff_some h
    refine V.cv rfl (c_cleanM hB hr.2.2.2.2.2.2.2.2 hI.1 hr.1 (show b < B by omega) (of_decide_eq_true hp)) rfl rfl ?_
    rintro _ _ ⟨rfl, a', v', rfl, hf, hk⟩
    refine V.run 20 rfl ?_
    obtain ⟨f1, f2, f3⟩ := hf
    obtain ⟨h1, h2, h3, h4, h5, h6, h7, h8, h9⟩ := hr
    refine V.ri rfl ⟨rfl, a', v', rfl, hk, fun w hw hn => ?_, ?_, ?_, ?_, ?_, ?_, ?_, ?_⟩
    · have hn' : a' 0 w ≠ -1 := by rw [hk.1 w hw]; exact hn
      obtain ⟨e1, e2⟩ := f3 w hw hn'
      rw [e1]
      exact h2 w hw (by rw [← h1.1 w hw, ← e2]; exact hn')
    · rw [f1 3 (by omega) (by omega) (by omega) (by omega) (by omega)]; exact h3
    · rw [f1 4 (by omega) (by omega) (by omega) (by omega) (by omega)]; exact h4
    · rw [f1 12 (by omega) (by omega) (by omega) (by omega) (by omega)]; exact h5
    · rw [f1 9 (by omega) (by omega) (by omega) (by omega) (by omega), f2 6 (by omega)]; exact h6
    · rw [f2 0 (by omega)]; exact h7
    · rw [f2 1 (by omega)]; exact h8
    · rw [f1 6 (by omega) (by omega) (by omega) (by omega) (by omega)]; exact h9
theorem c_markAllS (hB : B ≤ 16) {n : Nat} {s : AS} (hI : Inv B n s) (hr : RepC B a v s) : Tot none kX4_markAll [.ref 0] (wC B a v r) (fun o w' => o = none ∧ ∃ a' v', w' = wC B a' v' r ∧ RepC B a' v' (mrk B s) ∧ v' 2 = nI (mL3 B (sK s).1 (sF s) (sK s).2.1 (sD s) (sV s) (sR s) (sQ s)).length) := by
  have hp := hpC hI hr
  obtain ⟨h1, h2, h3, h4, h5, h6, h7, h8, h9⟩ := id hr
  have hrt : rtOK (a 12) (safe B s) := fun i hi => by rw [h5 i hi]; exact hI.2.2.1 i hi
  have hwt : wtOK (32 * B) (a 0) (a 2) (safe B s) := by
    obtain ⟨w1, w2, w3⟩ := hI.2.2.2.2.1
    refine ⟨fun w hw => by rw [h1.2.1 w hw]; exact w1 w hw, fun w hw q => w2 w hw (by rw [← h1.2.1 w hw]; exact q), fun x y hx hy q1 q2 q3 => w3 x y hx hy (by rw [← h1.2.1 x hx]; exact q1) (by rw [← h1.2.1 y hy]; exact q2) (by rw [← h1.1 x hx, ← h1.1 y hy]; exact q3)⟩
  have hag : agr (32 * B) (safe B s) (a 1) (a 3) (a 4) (sF s) (sD s) (sV s) := ⟨fun x hx => h2 x hx.1 hx.2.1, h3, h4⟩
  obtain ⟨e1, e2, e3, e4, e5, e6⟩ := mrk_congr hB hp hag hrt h5 hI.2.2.2.1.2 h1.1 h1.2.1 hwt
  refine (c_markAll hB hp hrt hwt h6 hI.2.2.2.1).mono ?_
  rintro o w' ⟨rfl, fq, nq, f, g, nn, u, rfl, q1, q2, q3, q4, q5⟩
  refine ⟨rfl, _, _, rfl, ⟨⟨h1.1, e3, h1.2.2.1, fun b hb => ?_, h1.2.2.2.2⟩, h2, e5, e6, h5, ?_, h7, ?_, fun w hw => ?_⟩, ?_⟩
  · show u b = if (sK s).2.2.1 b = -1 then 0 else 1
    rw [q5 b hb, h1.2.2.1 b hb]
  · show Ql (sQ s ++ mT B (sK s).1 (sF s) (sK s).2.1 (sD s) (sV s) (sR s) (sQ s)) fq nq
    rw [← e2]; exact q1
  · show v 1 + nI 1 = sN s + nI 1
    rw [h8]
  · show mkB g w = decide (w ∈ mL3 B (sK s).1 (sF s) (sK s).2.1 (sD s) (sV s) (sR s) (sQ s))
    rw [← e4]
    have hl := q4.len hp
    have := q3.iff (by omega) hw
    unfold mkB
    rw [Bool.eq_iff_iff]
    simp [this]
  · show nn = _
    rw [← e4]; exact q3.1
theorem c_mark (hB : B ≤ 16) {n : Nat} {s : AS} (hI : Inv B n s) (hr : RepC B a v s) : Tot none kX4_mark [.ref 0] (wC B a v r) (rC B r (opMark B s)) := by
  refine eX4_mark ?_
  refine V.run 20 rfl ?_
  refine V.cv rfl (c_markAllS hB hI hr) rfl rfl ?_
  rintro _ _ ⟨rfl, a', v', rfl, hr', h2⟩
  refine V.run 20 rfl ?_
  refine V.cv rfl (c_wsize false) rfl rfl ?_
  rintro _ _ ⟨rfl, rfl⟩
  exact V.ri rfl ⟨congrArg (fun z => some (Value.int z)) h2, a', v', rfl, hr'⟩
end CP3
end
section
theorem cw_mask : ∀ c, c < 4 → ∀ w, w < 512 → nI w &&& -(nI (cwd c)) = nI (w - w % cwd c) := by decide +kernel
theorem cw_32 : ∀ c, c < 4 → 32 / cwd c = cpb c := by decide
section CP4
variable {B : Nat} {a : Nat → Nat → Int32} {v : Nat → Int32} {r : xW}
theorem c_at (hB : B ≤ 16) {n : Nat} {s : AS} (hI : Inv B n s) (hr : RepC B a v s) (word : Int32) : Tot none kX4_at [.ref 0, .int word] (wC B a v r) (rI (opAt B s word) (wC B a v r)) := by
  refine eX4_at ?_
  unfold opAt
  rcases ixN_or (n := 32 * B) (by omega) word with ⟨hbad, e⟩ | ⟨w, hw, rfl, e⟩
  · rw [e]
    refine V.run 20 rfl ?_
    refine V.br rfl rfl (fun h => ?_) (fun h => ?_)
    · refine V.run 20 rfl ?_
      exact V.ri rfl ⟨rfl, rfl⟩
    · refine V.run 20 rfl ?_
      refine V.cv rfl c_words rfl rfl ?_
      rintro _ _ ⟨rfl, rfl⟩
      refine V.brF rfl rfl (Int32.not_lt.mpr (hbad.resolve_left h)) ?_
      refine V.run 20 rfl ?_
      exact V.ri rfl ⟨rfl, rfl⟩
  · rw [e]
    dsimp only
    refine V.run 20 rfl ?_
    refine V.brF rfl rfl (nI_pos (by omega)) ?_
    refine V.run 20 rfl ?_
    refine V.cv rfl c_words rfl rfl ?_
    rintro _ _ ⟨rfl, rfl⟩
    refine V.brT rfl rfl (nI_lt hw (by omega)) ?_
    refine V.run 20 rfl ?_
    have hb : w / 32 < B := by omega
    rcases hI.1.1 (w / 32) hb with hf | ⟨c, hc, hcl⟩
    · rw [if_pos hf]
      refine V.cv rfl (Qj := rI (-1) (wC B a v r)) (eX0_cellAround ?_) rfl rfl ?_
      · refine V.run 20 rfl ?_
        refine V.idiv rfl (by decide) ?_
        rw [pk_div (by omega) (by omega) (by omega)]
        refine V.cv rfl (c_classOfE hB hb ((hr.1.2.2.1 _ hb).trans hf)) rfl rfl ?_
        rintro _ _ ⟨rfl, rfl⟩
        refine V.run 20 rfl ?_
        refine V.brF rfl rfl (fun h => h rfl) ?_
        refine V.run 20 rfl ?_
        exact V.ri rfl ⟨rfl, rfl⟩
      · rintro _ _ ⟨rfl, rfl⟩
        refine V.cv rfl c_nameAt0 rfl rfl ?_
        rintro _ _ ⟨rfl, rfl⟩
        exact V.ri rfl ⟨rfl, rfl⟩
    · have ej : cwJ (sK s).2.2.1 (w / 32) = cwd c := by unfold cwJ; rw [hcl, nI_clamp (by omega)]
      rw [if_neg (by rw [hcl]; exact nI_m1 (by omega)), ej]
      refine V.cv rfl (Qj := rI (nI (w - w % cwd c)) (wC B a v r)) (eX0_cellAround ?_) rfl rfl ?_
      · refine V.run 20 rfl ?_
        refine V.idiv rfl (by decide) ?_
        rw [pk_div (by omega) (by omega) (by omega)]
        refine V.cv rfl (c_classOfE hB hb ((hr.1.2.2.1 _ hb).trans hcl)) rfl rfl ?_
        rintro _ _ ⟨rfl, rfl⟩
        refine V.run 20 rfl ?_
        refine V.brT rfl rfl (nI_m1 (by omega)) ?_
        refine V.run 20 rfl ?_
        refine V.cs rfl (c_cellWords hc) rfl ?_
        rintro _ _ ⟨rfl, rfl⟩
        refine V.run 20 rfl ?_
        rw [cw_mask c hc w (by omega)]
        exact V.ri rfl ⟨rfl, rfl⟩
      · rintro _ _ ⟨rfl, rfl⟩
        have hx : w - w % cwd c < 32 * B := by omega
        refine V.cv rfl (c_nameAtE hB hx (hr.1.1 _ hx)) rfl rfl ?_
        rintro _ _ ⟨rfl, rfl⟩
        exact V.ri rfl ⟨rfl, rfl⟩
theorem c_block (hB : B ≤ 16) {n : Nat} {s : AS} (hI : Inv B n s) (hr : RepC B a v s) (bb what : Int32) : Tot none kX4_block [.ref 0, .int bb, .int what] (wC B a v r) (rI (opBlock B s bb what) (wC B a v r)) := by
  refine eX4_block ?_
  refine V.run 20 rfl ?_
  unfold opBlock
  rcases ixN_or (n := B) (by omega) bb with ⟨hbad, e⟩ | ⟨b, hb, rfl, e⟩
  · rw [e]
    refine V.cv rfl (c_has0 hbad) rfl rfl ?_
    rintro _ _ ⟨rfl, rfl⟩
    refine V.brF rfl rfl (fun h => h i0_eq0) ?_
    refine V.run 20 rfl ?_
    exact V.ri rfl ⟨rfl, rfl⟩
  · rw [e]
    refine V.cv rfl (c_has hB hb) rfl rfl ?_
    rintro _ _ ⟨rfl, rfl⟩
    refine V.brT rfl rfl i1_ne0 ?_
    refine V.run 20 rfl ?_
    rcases ixN_or (n := 4) (by omega) what with ⟨hbad, e2⟩ | ⟨k, hk, rfl, e2⟩
    · rw [e2]
      refine V.tableOut (tgt := 83) rfl (by
        rcases hbad with h | h
        · left; rw [Int32.lt_iff_toInt_lt] at h; simpa using h
        · right; rw [Int32.le_iff_toInt_le, nI_toInt (by omega)] at h; omega) rfl ?_
      refine V.run 20 rfl ?_
      exact V.ri rfl ⟨rfl, rfl⟩
    · rw [e2]
      dsimp only
      have hu := hI.1.2.1 b hb
      have hu01 : (sK s).2.2.2.1 b = 0 ∨ (sK s).2.2.2.1 b = 1 := hu.imp id And.left
      rcases (show k = 0 ∨ k = 1 ∨ k = 2 ∨ k = 3 by omega) with rfl | rfl | rfl | rfl
      · refine V.tableIn (tgt := 44) rfl (by decide) (by decide) rfl rfl ?_
        refine V.run 20 rfl ?_
        refine V.cv rfl (c_classOfE hB hb (hr.1.2.2.1 b hb)) rfl rfl ?_
        rintro _ _ ⟨rfl, rfl⟩
        exact V.ri rfl ⟨rfl, rfl⟩
      · refine V.tableIn (tgt := 53) rfl (by decide) (by decide) rfl rfl ?_
        refine V.run 20 rfl ?_
        refine V.cv rfl (c_isUnsweptE hB hb (hr.1.2.2.2.1 b hb) hu01) rfl rfl ?_
        rintro _ _ ⟨rfl, rfl⟩
        refine V.cs rfl (c_oneIfz hu01) rfl ?_
        rintro _ _ ⟨rfl, rfl⟩
        exact V.ri rfl ⟨rfl, rfl⟩
      · refine V.tableIn (tgt := 65) rfl (by decide) (by decide) rfl rfl ?_
        refine V.run 20 rfl ?_
        refine V.cv rfl (c_objectsIn hB hI.1 hr.1 hb) rfl rfl ?_
        rintro _ _ ⟨rfl, rfl⟩
        exact V.ri rfl ⟨rfl, rfl⟩
      · refine V.tableIn (tgt := 74) rfl (by decide) (by decide) rfl rfl ?_
        refine V.run 20 rfl ?_
        rcases hI.1.1 b hb with hf | ⟨c, hc, hcl⟩
        · refine V.cv rfl (c_emptyCellsIn0 hB hI.1 hr.1 hb hf) rfl rfl ?_
          rintro _ _ ⟨rfl, rfl⟩
          exact V.ri rfl ⟨by rw [if_pos hf]; rfl, rfl⟩
        · refine V.cv rfl (c_emptyCellsIn hB hI.1 hr.1 hb hc hcl) rfl rfl ?_
          rintro _ _ ⟨rfl, rfl⟩
          have ej : cwJ (sK s).2.2.1 b = cwd c := by unfold cwJ; rw [hcl, nI_clamp (by omega)]
          exact V.ri rfl ⟨by rw [if_neg (show ¬ (sK s).2.2.1 b = -1 by rw [hcl]; exact nI_m1 (by omega)), ej, cw_32 c hc]; rfl, rfl⟩
theorem c_count (hB : B ≤ 16) {n : Nat} {s : AS} (hI : Inv B n s) (hr : RepC B a v s) (what : Int32) : Tot none kX4_count [.ref 0, .int what] (wC B a v r) (rC B r (opCount B s what, s)) := by
  have hp := hpC hI hr
  obtain ⟨h1, h2, h3, h4, h5, h6, h7, h8, h9⟩ := id hr
  refine eX4_count ?_
  refine V.run 20 rfl ?_
  unfold opCount
  rcases ixN_or (n := 10) (by omega) what with ⟨hbad, e⟩ | ⟨k, hk, rfl, e⟩
  · rw [e]
    refine V.tableOut (tgt := 127) rfl (by
      rcases hbad with h | h
      · left; rw [Int32.lt_iff_toInt_lt] at h; simpa using h
      · right; rw [Int32.le_iff_toInt_le, nI_toInt (by omega)] at h; omega) rfl ?_
    refine V.run 20 rfl ?_
    exact V.ri rfl ⟨rfl, a, v, rfl, hr⟩
  · rw [e]
    dsimp only
    rcases (show k = 0 ∨ k = 1 ∨ k = 2 ∨ k = 3 ∨ k = 4 ∨ k = 5 ∨ k = 6 ∨ k = 7 ∨ k = 8 ∨ k = 9 by omega) with rfl | rfl | rfl | rfl | rfl | rfl | rfl | rfl | rfl | rfl
    · refine V.tableIn (tgt := 56) rfl (by decide) (by decide) rfl rfl ?_
      refine V.run 20 rfl ?_
      refine V.cv rfl (c_objects hB hI.1 h1) rfl rfl ?_
      rintro _ _ ⟨rfl, rfl⟩
      exact V.ri rfl ⟨rfl, a, v, rfl, hr⟩
    · refine V.tableIn (tgt := 64) rfl (by decide) (by decide) rfl rfl ?_
      refine V.run 20 rfl ?_
      refine V.cv rfl (c_usedWords hB hI.1 h1) rfl rfl ?_
      rintro _ _ ⟨rfl, rfl⟩
      exact V.ri rfl ⟨rfl, a, v, rfl, hr⟩
    · refine V.tableIn (tgt := 72) rfl (by decide) (by decide) rfl rfl ?_
      refine V.run 20 rfl ?_
      exact V.ri rfl ⟨congrArg (fun z => some (Value.int z)) h7, a, v, rfl, hr⟩
    · refine V.tableIn (tgt := 77) rfl (by decide) (by decide) rfl rfl ?_
      refine V.run 20 rfl ?_
      exact V.ri rfl ⟨congrArg (fun z => some (Value.int z)) h8, a, v, rfl, hr⟩
    · refine V.tableIn (tgt := 82) rfl (by decide) (by decide) rfl rfl ?_
      refine V.run 20 rfl ?_
      refine V.cv rfl c_sweepsDone rfl rfl ?_
      rintro _ _ ⟨rfl, rfl⟩
      exact V.ri rfl ⟨congrArg (fun z => some (Value.int z)) h1.2.2.2.2, a, v, rfl, hr⟩
    · refine V.tableIn (tgt := 90) rfl (by decide) (by decide) rfl rfl ?_
      refine V.run 20 rfl ?_
      refine V.cv rfl (c_freeBlocks hB h1) rfl rfl ?_
      rintro _ _ ⟨rfl, rfl⟩
      exact V.ri rfl ⟨rfl, a, v, rfl, hr⟩
    · refine V.tableIn (tgt := 98) rfl (by decide) (by decide) rfl rfl ?_
      refine V.run 20 rfl ?_
      refine V.cv rfl (c_unsweptBlocks hB hI.1 h1) rfl rfl ?_
      rintro _ _ ⟨rfl, rfl⟩
      exact V.ri rfl ⟨rfl, a, v, rfl, hr⟩
    · refine V.tableIn (tgt := 106) rfl (by decide) (by decide) rfl rfl ?_
      refine V.run 20 rfl ?_
      refine V.cv rfl (c_lsizeE h6.1) rfl rfl ?_
      rintro _ _ ⟨rfl, rfl⟩
      exact V.ri rfl ⟨rfl, a, v, rfl, hr⟩
    · refine V.tableIn (tgt := 114) rfl (by decide) (by decide) rfl rfl ?_
      refine V.run 20 rfl ?_
      refine V.cv rfl (c_watchedObjects hB h1.2.1 hI.2.2.2.2.1.1) rfl rfl ?_
      rintro _ _ ⟨rfl, rfl⟩
      exact V.ri rfl ⟨rfl, a, v, rfl, hr⟩
    · have hrt : rtOK (a 12) (safe B s) := fun i hi => by rw [h5 i hi]; exact hI.2.2.1 i hi
      have hag : agr (32 * B) (safe B s) (a 1) (a 3) (a 4) (sF s) (sD s) (sV s) := ⟨fun x hx => h2 x hx.1 hx.2.1, h3, h4⟩
      have hwt : wtOK (32 * B) (a 0) (a 2) (safe B s) := by
        obtain ⟨w1, w2, w3⟩ := hI.2.2.2.2.1
        refine ⟨fun w hw => by rw [h1.2.1 w hw]; exact w1 w hw, fun w hw q => w2 w hw (by rw [← h1.2.1 w hw]; exact q), fun x y hx hy q1 q2 q3 => w3 x y hx hy (by rw [← h1.2.1 x hx]; exact q1) (by rw [← h1.2.1 y hy]; exact q2) (by rw [← h1.1 x hx, ← h1.1 y hy]; exact q3)⟩
      obtain ⟨e1, -⟩ := mrk_congr hB hp hag hrt h5 hI.2.2.2.1.2 h1.1 h1.2.1 hwt
      refine V.tableIn (tgt := 122) rfl (by decide) (by decide) rfl rfl ?_
      refine V.run 20 rfl ?_
      refine V.cv rfl (c_heldObjects hB hp hrt h6 hI.2.2.2.1) rfl rfl ?_
      rintro _ _ ⟨rfl, f, g, n1, n2, rfl⟩
      exact V.ri rfl ⟨congrArg (fun z : List Nat => some (Value.int (nI z.length))) e1, _, _, rfl, h1, h2, h3, h4, h5, h6, h7, h8, h9⟩
theorem c_fieldTerm (hB : B ≤ 16) {G : Nat → Prop} (hp : hpOK (32 * B) (a 1) (a 3) (a 4) G) {L : List Nat} (hW : Wk (32 * B) L (a 7) (a 8) (v 4)) (hG : Wg B G L) {x j m : Nat} (hx : G x) (hf : a 1 x = nI m) (hm : m ≤ 15) (hj : j < m) (hcl : ∀ y ∈ tgs (a 1) (a 3) (a 4) x, y ∈ L) :
    Tot none kX4_fieldTerm [.ref 0, .int (nI x), .int (nI j)] (wC B a v r) (rJ (sTm (a 3) (a 4) L (x + 1 + j)) (wC B a v r)) := by
  obtain ⟨hxN, -, m', hm', hf', hmN, hj'⟩ := hp x hx
  have e : m' = m := nI_inj (by omega) (by omega) (hf'.symm.trans hf)
  subst e
  have hjN : x + 1 + j < 32 * B := by omega
  have hlen := hG.len hp
  refine eX4_fieldTerm ?_
  refine V.run 20 rfl ?_
  refine V.cv rfl (c_valueOf hB hjN) rfl rfl ?_
  rintro _ _ ⟨rfl, rfl⟩
  refine V.run 20 rfl ?_
  unfold sTm
  rcases hj' j hj with h0 | ⟨h12, y, hy, hyG⟩
  · refine V.cv rfl (c_kindOfE hB hjN h0) rfl rfl ?_
    rintro _ _ ⟨rfl, rfl⟩
    refine V.lookup (tgt := 64) rfl (by decide) rfl rfl ?_
    refine V.run 20 rfl ?_
    exact V.rl rfl ⟨by rw [if_pos h0], rfl⟩
  · rcases h12 with h1 | h2
    · have hyN := (hp y hyG).1
      have hyL : y ∈ L := hcl y (by
        rw [tgs_tgc hf hm]
        unfold tgc
        refine List.mem_filterMap.mpr ⟨j, List.mem_range'_1.mpr ⟨by omega, by omega⟩, ?_⟩
        rw [if_pos h1, hy, nI_clamp (by omega)])
      obtain ⟨i, hi⟩ := List.getElem?_of_mem hyL
      refine V.cv rfl (c_kindOfE hB hjN h1) rfl rfl ?_
      rintro _ _ ⟨rfl, rfl⟩
      refine V.lookup (tgt := 44) rfl (by decide) rfl rfl ?_
      refine V.run 20 rfl ?_
      rw [hy]
      refine V.cv rfl (c_rankOf true hB hyN) rfl rfl ?_
      rintro _ _ ⟨rfl, rfl⟩
      refine V.run 20 rfl ?_
      have er : a (oR true) y = nI i := (hW.2.1 i y hi).2
      rw [if_neg (show ¬ a 3 (x + 1 + j) = 0 by rw [h1]; decide), if_pos h1, nI_clamp (by omega), rkN_get hG.1 hi]
      rw [er]
      exact V.rl rfl ⟨rfl, rfl⟩
    · refine V.cv rfl (c_kindOfE hB hjN h2) rfl rfl ?_
      rintro _ _ ⟨rfl, rfl⟩
      refine V.lookup (tgt := 60) rfl (by decide) rfl rfl ?_
      refine V.run 20 rfl ?_
      exact V.rl rfl ⟨by rw [if_neg (show ¬ a 3 (x + 1 + j) = 0 by rw [h2]; decide), if_neg (show ¬ a 3 (x + 1 + j) = 1 by rw [h2]; decide)], rfl⟩
theorem c_addObject (hB : B ≤ 16) {G : Nat → Prop} (hp : hpOK (32 * B) (a 1) (a 3) (a 4) G) {L : List Nat} (hW : Wk (32 * B) L (a 7) (a 8) (v 4)) (hG : Wg B G L) {x : Nat} (hx : G x) (hcl : ∀ y ∈ tgs (a 1) (a 3) (a 4) x, y ∈ L) (z : Int64) :
    Tot none kX4_addObject [.ref 0, .long z, .int (nI x)] (wC B a v r) (rJ (sOb (a 1) (a 3) (a 4) L x z) (wC B a v r)) := by
  obtain ⟨hxN, -, m, hm, hf, hmN, hj'⟩ := hp x hx
  have loop : ∀ (c j : Nat), j + c = m → V none 83 (rJ (sOb (a 1) (a 3) (a 4) L x z) (wC B a v r)) (0, 0) 28 [(0, .ref 0), (1, .long z), (3, .int (nI x)), (4, .int (nI m)), (5, .long (sFl (fun j => sTm (a 3) (a 4) L (x + 1 + j)) (lN 31 * z + (nI m).toInt64) j)), (7, .int (nI j))] [.int (nI m), .int (nI j)] (wC B a v r) := by
    intro c
    induction c with
    | zero =>
      intro j hj
      have e : j = m := by omega
      subst e
      refine V.brT rfl rfl (nI_le (Nat.le_refl _) (by omega)) ?_
      refine V.run 20 rfl ?_
      exact V.rl rfl ⟨by unfold sOb; rw [hf, nI_clamp (by omega)], rfl⟩
    | succ c ih =>
      intro j hj
      have ih := ih (j + 1) (by omega)
      refine V.brF rfl rfl (nI_ge (show j < m by omega) (by omega)) ?_
      refine V.run 20 rfl ?_
      refine V.cv rfl (c_fieldTerm hB hp hW hG hx hf hm (show j < m by omega) hcl) rfl rfl ?_
      rintro _ _ ⟨rfl, rfl⟩
      refine V.run 20 rfl ?_
      rw [nI_add]
      exact ih
  refine eX4_addObject ?_
  refine V.run 20 rfl ?_
  refine V.cv rfl (c_fieldsOfE hB hxN hf) rfl rfl ?_
  rintro _ _ ⟨rfl, rfl⟩
  refine V.run 20 rfl ?_
  exact loop m 0 (by omega)
end CP4
end
section
theorem fol_closed {B : Nat} {fd kd vl : Nat → Int32} {G : Nat → Prop} (hp : hpOK (32 * B) fd kd vl G) (hN : 32 * B < 2 ^ 31) : ∀ (n i : Nat) (L : List Nat), 16 * B + 1 ≤ i + n → i ≤ L.length → Wg B G L → (∀ k x, k < i → L[k]? = some x → ∀ y ∈ tgs fd kd vl x, y ∈ L) →
    Wg B G (fol (tgs fd kd vl) n i L) ∧ ∀ x ∈ fol (tgs fd kd vl) n i L, ∀ y ∈ tgs fd kd vl x, y ∈ fol (tgs fd kd vl) n i L
  | 0, i, L, h1, h2, h3, _ => by
    have := h3.len hp
    omega
  | n + 1, i, L, h1, h2, h3, h4 => by
    unfold fol
    split
    · rename_i hlt
      obtain ⟨x, hx⟩ : ∃ x, L[i]? = some x := ⟨_, List.getElem?_eq_getElem hlt⟩
      have hxG := h3.2 x (List.mem_of_getElem? hx)
      have eg : L.getD i 0 = x := by rw [List.getD_eq_getElem?_getD, hx]; rfl
      rw [eg]
      obtain ⟨M, hM⟩ := insL_pre (tgs fd kd vl x) L
      refine fol_closed hp hN n (i + 1) _ (by omega) (by rw [hM, List.length_append]; omega) ⟨insL_nodup h3.1, insL_all h3.2 (fun y hy => tgs_G hp hN hxG hy)⟩ (fun k z hk hz y hy => ?_)
      by_cases q : k = i
      · subst q
        rw [hM, List.getElem?_append_left hlt, hx] at hz
        cases hz
        exact insL_mem.mpr (Or.inr hy)
      · rw [hM, List.getElem?_append_left (by omega)] at hz
        exact insL_mem.mpr (Or.inl (h4 k z (by omega) hz y hy))
    · refine ⟨h3, fun x hx y hy => ?_⟩
      obtain ⟨k, hk⟩ := List.getElem?_of_mem hx
      have := (List.getElem?_eq_some_iff.mp hk).1
      exact h4 k x (by omega) hk y hy
theorem tgs_lo (fd kd vl : Nat → Int32) (L : List Nat) (x : Nat) : tgs fd (loK fd kd vl L) (loV fd kd vl L) x = tgs fd kd vl x := by
  unfold tgs
  refine fm_congr (fun j _ => ?_)
  unfold loK loV cfK cfV
  cases hc : (inF fd L (x + 1 + j) && cutb kd vl L (x + 1 + j)) with
  | false => rfl
  | true =>
    have h2 : kd (x + 1 + j) = 2 := by
      have := (Bool.and_eq_true _ _).mp hc
      simp only [cutb, Bool.and_eq_true, decide_eq_true_eq] at this
      exact this.2.1
    rw [cond_true, cond_true, if_neg (show ¬ nI 0 = 1 by decide), if_neg (show ¬ kd (x + 1 + j) = 1 by rw [h2]; decide)]
theorem held_G {B : Nat} {fd kd vl rt : Nat → Int32} {G : Nat → Prop} (hp : hpOK (32 * B) fd kd vl G) (hN : 32 * B < 2 ^ 31) {Qs : List Nat} (hr : rtOK rt G) (hq : ∀ y ∈ Qs, G y) : Wg B G (heldL rt Qs) := by
  refine ⟨insL_nodup (insL_nodup List.nodup_nil), insL_all (insL_all (fun y hy => by simp at hy) (fun y hy => ?_)) hq⟩
  obtain ⟨i, hi, he⟩ := List.mem_filterMap.mp hy
  have := (List.mem_range'_1.mp hi).2
  rcases hr i (by omega) with h0 | ⟨x, hx, hg⟩
  · rw [if_pos h0] at he; cases he
  · rw [hx, if_neg (nI_m1 (by have := (hp x hg).1; omega)), nI_clamp (by have := (hp x hg).1; omega)] at he
    cases he; exact hg
/-- what marking comes to -/
theorem mrk_facts {B : Nat} (hB : B ≤ 16) {nm fd wt kd vl rt : Nat → Int32} {G : Nat → Prop} {Qs : List Nat} (hp : hpOK (32 * B) fd kd vl G) (hr : rtOK rt G) (hq : ∀ y ∈ Qs, G y) (hw : wtOK (32 * B) nm wt G) :
    Wg B G (mL1 B fd kd vl rt Qs) ∧ (∀ x ∈ mL1 B fd kd vl rt Qs, ∀ y ∈ tgs fd kd vl x, y ∈ mL1 B fd kd vl rt Qs) ∧ (∀ y ∈ heldL rt Qs, y ∈ mL1 B fd kd vl rt Qs) ∧
    Wg B G (mL3 B nm fd wt kd vl rt Qs) ∧ (∀ x ∈ mL3 B nm fd wt kd vl rt Qs, ∀ y ∈ tgs fd kd vl x, y ∈ mL3 B nm fd wt kd vl rt Qs) ∧ (∀ y ∈ mL1 B fd kd vl rt Qs, y ∈ mL3 B nm fd wt kd vl rt Qs) ∧ (∀ y ∈ mT B nm fd wt kd vl rt Qs, y ∈ mL3 B nm fd wt kd vl rt Qs ∧ G y) := by
  have hN : 32 * B < 2 ^ 31 := by omega
  have hh := held_G hp hN hr hq
  have c1 := fol_closed hp hN (16 * B + 1) 0 (heldL rt Qs) (by omega) (Nat.zero_le _) hh (fun k x hk => absurd hk (Nat.not_lt_zero k))
  have c1' : Wg B G (mL1 B fd kd vl rt Qs) ∧ ∀ x ∈ mL1 B fd kd vl rt Qs, ∀ y ∈ tgs fd kd vl x, y ∈ mL1 B fd kd vl rt Qs := c1
  have hT : ∀ y ∈ mT B nm fd wt kd vl rt Qs, G y := by
    intro y hy
    have := sq_mem.mp hy
    exact hw.2.1 y (by omega) this.2.2.1
  have p1 : hpOK (32 * B) fd (mK1 B fd kd vl rt Qs) (mV1 B fd kd vl rt Qs) G := hpOK_lo hp _
  have et : ∀ x, tgs fd (mK1 B fd kd vl rt Qs) (mV1 B fd kd vl rt Qs) x = tgs fd kd vl x := fun x => tgs_lo fd kd vl _ x
  obtain ⟨M, hM⟩ := insL_pre (mT B nm fd wt kd vl rt Qs) (mL1 B fd kd vl rt Qs)
  have l1 := c1'.1.len hp
  have c3 := fol_closed p1 hN (16 * B + 1 - (mL1 B fd kd vl rt Qs).length) (mL1 B fd kd vl rt Qs).length (insL (mL1 B fd kd vl rt Qs) (mT B nm fd wt kd vl rt Qs)) (by omega) (by rw [hM, List.length_append]; omega) ⟨insL_nodup c1'.1.1, insL_all c1'.1.2 hT⟩ (fun k x hk hx y hy => by
    rw [hM, List.getElem?_append_left hk] at hx
    rw [et] at hy
    exact insL_mem.mpr (Or.inl (c1'.2 x (List.mem_of_getElem? hx) y hy)))
  have c3' : Wg B G (mL3 B nm fd wt kd vl rt Qs) ∧ ∀ x ∈ mL3 B nm fd wt kd vl rt Qs, ∀ y ∈ tgs fd (mK1 B fd kd vl rt Qs) (mV1 B fd kd vl rt Qs) x, y ∈ mL3 B nm fd wt kd vl rt Qs := c3
  refine ⟨c1'.1, c1'.2, fun y hy => fol_sub hy, c3'.1, fun x hx y hy => c3'.2 x hx y (by rw [et]; exact hy), fun y hy => fol_sub (insL_mem.mpr (Or.inl hy)), fun y hy => ⟨fol_sub (insL_mem.mpr (Or.inr hy)), hT y hy⟩⟩
section CSU
variable {B : Nat} {a : Nat → Nat → Int32} {v : Nat → Int32} {r : xW}
theorem sTm_congr {N : Nat} {kd vl kd' vl' : Nat → Int32} (h1 : ∀ w, w < N → kd w = kd' w) (h2 : ∀ w, w < N → vl w = vl' w) (L : List Nat) {w : Nat} (hw : w < N) : sTm kd vl L w = sTm kd' vl' L w := by
  unfold sTm
  rw [h1 w hw, h2 w hw]
theorem sFl_congr {t t' : Nat → Int64} {z : Int64} : ∀ {m : Nat}, (∀ j, j < m → t j = t' j) → sFl t z m = sFl t' z m
  | 0, _ => rfl
  | m + 1, h => by
    unfold sFl
    rw [sFl_congr (fun j hj => h j (by omega)), h m (by omega)]
theorem sOb_congr {N : Nat} {G : Nat → Prop} {fd kd vl fd' kd' vl' : Nat → Int32} (hp : hpOK N fd kd vl G) (h : agr N G fd kd vl fd' kd' vl') (L : List Nat) {x : Nat} (hx : G x) (z : Int64) : sOb fd kd vl L x z = sOb fd' kd' vl' L x z := by
  obtain ⟨-, -, m, hm, hf, hmN, -⟩ := hp x hx
  unfold sOb
  rw [← h.1 x hx, hf, nI_clamp (by omega)]
  exact sFl_congr (fun j hj => sTm_congr h.2.1 h.2.2 L (by omega))
theorem sAll_congr {N : Nat} {G : Nat → Prop} {fd kd vl fd' kd' vl' : Nat → Int32} (hp : hpOK N fd kd vl G) (h : agr N G fd kd vl fd' kd' vl') {L : List Nat} (hL : ∀ x ∈ L, G x) : ∀ i, i ≤ L.length → sAll fd kd vl L i = sAll fd' kd' vl' L i
  | 0, _ => rfl
  | i + 1, hi => by
    unfold sAll
    rw [sAll_congr hp h hL i (by omega)]
    have hx : G (L.getD i 0) := by
      rw [List.getD_eq_getElem?_getD, List.getElem?_eq_getElem (show i < L.length by omega)]
      exact hL _ (List.getElem_mem _)
    rw [sOb_congr hp h L hx]
theorem c_sum (hB : B ≤ 16) {n : Nat} {s : AS} (hI : Inv B n s) (hr : RepC B a v s) (root : Int32) : Tot none kX4_sum [.ref 0, .int root] (wC B a v r) (fun o w' => o = some (.long (opSum B s root)) ∧ ∃ a' v', w' = wC B a' v' r ∧ RepC B a' v' s) := by
  have hp := hpC hI hr
  obtain ⟨h1, h2, h3, h4, h5, h6, h7, h8, h9⟩ := id hr
  refine eX4_sum ?_
  refine V.run 20 rfl ?_
  unfold opSum
  rcases ixN_or (n := 16) (by omega) root with ⟨hbad, e⟩ | ⟨i, hi, rfl, e⟩
  · rw [e]
    refine V.cs rfl (c_isRoot0 hbad) rfl ?_
    rintro _ _ ⟨rfl, rfl⟩
    refine V.brF rfl rfl (fun h => h i0_eq0) ?_
    refine V.run 20 rfl ?_
    exact V.rl rfl ⟨rfl, a, v, rfl, hr⟩
  · rw [e]
    dsimp only
    refine V.cs rfl (c_isRoot1 hi) rfl ?_
    rintro _ _ ⟨rfl, rfl⟩
    refine V.brT rfl rfl i1_ne0 ?_
    refine V.run 20 rfl ?_
    refine V.ialE rfl rfl rfl hi (by omega) (h5 i hi) ?_
    refine V.run 20 rfl ?_
    rcases hI.2.2.1 i hi with h0 | ⟨x, hx, hs⟩
    · refine V.brF rfl rfl (fun h => h h0) ?_
      refine V.run 20 rfl ?_
      exact V.rl rfl ⟨by rw [if_pos h0]; rfl, a, v, rfl, hr⟩
    · have hxN := hs.1
      have hag : agr (32 * B) (safe B s) (a 1) (a 3) (a 4) (sF s) (sD s) (sV s) := ⟨fun x hx => h2 x hx.1 hx.2.1, h3, h4⟩
      have hN : 32 * B < 2 ^ 31 := by omega
      have hW0 : Wg B (safe B s) [x] := ⟨by simp, fun y hy => by simp at hy; rw [hy]; exact hs⟩
      have fc := fol_closed hp hN (16 * B + 1) 0 [x] (by omega) (Nat.zero_le _) hW0 (fun k x hk => absurd hk (Nat.not_lt_zero k))
      have fg := fol_congr (fun x hx => tgs_congr hp hN hag hx) (fun x y hx hy => tgs_G hp hN hx hy) (16 * B + 1) 0 [x] hW0.2
      rw [hx, if_neg (nI_m1 (by omega)), nI_clamp (by omega), ← fg.1]
      generalize hLL : fol (tgs (a 1) (a 3) (a 4)) (16 * B + 1) 0 [x] = LL at fc fg
      rw [← sAll_congr hp hag fc.1.2 LL.length (Nat.le_refl _)]
      have hlen := fc.1.len hp
      refine V.brT rfl rfl (nI_m1 (by omega)) ?_
      refine V.run 20 rfl ?_
      refine V.cv rfl (c_clear true hB) rfl rfl ?_
      rintro _ _ ⟨rfl, g0, rfl, hg0⟩
      refine V.run 20 rfl ?_
      refine V.ialE rfl rfl rfl hi (by omega) ((h5 i hi).trans hx) ?_
      refine V.cv rfl (c_come true hB (L := []) hxN (Wk.nil hg0) (by simp) (Or.inr (by simp; omega))) rfl rfl ?_
      rintro _ _ ⟨rfl, f1, g1, n1, rfl, hW1⟩
      refine V.run 20 rfl ?_
      refine V.cv rfl (c_spread true hB (G := safe B s) (L := [x]) (i := 0) (by exact hp) (by exact hW1) hW0 rfl (Nat.zero_le _)) rfl rfl ?_
      rintro _ _ ⟨rfl, f2, g2, n2, rfl, hW2, hG2⟩
      have hW2 : Wk (32 * B) LL f2 g2 n2 := hLL ▸ hW2
      refine V.run 20 rfl ?_
      have loop : ∀ (c k : Nat), k + c = LL.length → V none 68 (fun o w' => o = some (.long (sAll (a 1) (a 3) (a 4) LL LL.length)) ∧ ∃ a' v', w' = wC B a' v' r ∧ RepC B a' v' s) (0, 0) 67 [(0, .ref 0), (1, .int (nI i)), (2, .long (sAll (a 1) (a 3) (a 4) LL k)), (4, .int (nI k))] [.ref 10, .int (nI k)] (wC B (setA (setA a 7 f2) 8 g2) (uV (uV v 4 n2) 5 n2) r) := by
        intro c
        induction c with
        | zero =>
          intro k hk
          have ek : k = LL.length := by omega
          subst ek
          refine V.cv rfl (c_wsize true) rfl rfl ?_
          rintro _ _ ⟨rfl, rfl⟩
          refine V.brT rfl rfl (le_eq hW2.1 (Nat.le_refl _) (by omega)) ?_
          refine V.run 20 rfl ?_
          exact V.rl rfl ⟨rfl, _, _, rfl, h1, h2, h3, h4, h5, h6, h7, h8, h9⟩
        | succ c ih =>
          intro k hk
          have ih := ih (k + 1) (by omega)
          have hkl : k < LL.length := by omega
          obtain ⟨y, hy⟩ : ∃ y, LL[k]? = some y := ⟨_, List.getElem?_eq_getElem hkl⟩
          have hyL := List.mem_of_getElem? hy
          have eg : LL.getD k 0 = y := by rw [List.getD_eq_getElem?_getD, hy]; rfl
          have es : sAll (a 1) (a 3) (a 4) LL (k + 1) = sOb (a 1) (a 3) (a 4) LL y (sAll (a 1) (a 3) (a 4) LL k) := by rw [sAll, eg]
          rw [es] at ih
          refine V.cv rfl (c_wsize true) rfl rfl ?_
          rintro _ _ ⟨rfl, rfl⟩
          refine V.brF rfl rfl (fun h => nI_ge hkl (by omega) (hW2.1 ▸ h)) ?_
          refine V.run 20 rfl ?_
          refine V.cv rfl (c_wgetE true hB (by exact hW2.1) hkl hlen (by exact (hW2.2.1 k y hy).1)) rfl rfl ?_
          rintro _ _ ⟨rfl, rfl⟩
          refine V.cv rfl (c_addObject hB (G := safe B s) (L := LL) (by exact hp) (by exact hW2) fc.1 (fc.1.2 y hyL) (by exact fc.2 y hyL) _) rfl rfl ?_
          rintro _ _ ⟨rfl, rfl⟩
          refine V.run 20 rfl ?_
          rw [nI_add]
          exact ih
      exact loop LL.length 0 (by omega)
end CSU
end
section
/-! what is kept -/
def Kle (B : Nat) (mkd : Nat → Bool) (K K' : KS) : Prop :=
  bkOK B mkd K' ∧ (∀ x, x < 32 * B → K'.1 x ≠ -1 → K'.1 x = K.1 x ∧ K'.2.2.1 (x / 32) = K.2.2.1 (x / 32)) ∧
  (∀ x, x < 32 * B → ((K.1 x ≠ -1 ∧ (mkd x = true ∨ K.2.2.2.1 (x / 32) = 0)) ↔ (K'.1 x ≠ -1 ∧ (mkd x = true ∨ K'.2.2.2.1 (x / 32) = 0)))) ∧
  (∀ x, x < 32 * B → K'.2.1 x = 1 → K.2.1 x = 1)
theorem Kle.rf {B : Nat} {mkd : Nat → Bool} {K : KS} (h : bkOK B mkd K) : Kle B mkd K K := ⟨h, fun _ _ _ => ⟨rfl, rfl⟩, fun _ _ => Iff.rfl, fun _ _ h => h⟩
theorem Kle.tr {B : Nat} {mkd : Nat → Bool} {K K' K'' : KS} (h1 : Kle B mkd K K') (h2 : Kle B mkd K' K'') : Kle B mkd K K'' := by
  refine ⟨h2.1, fun x hx hn => ?_, fun x hx => (h1.2.2.1 x hx).trans (h2.2.2.1 x hx), fun x hx h => h1.2.2.2 x hx (h2.2.2.2 x hx h)⟩
  obtain ⟨e1, e2⟩ := h2.2.1 x hx hn
  obtain ⟨e3, e4⟩ := h1.2.1 x hx (by rw [← e1]; exact hn)
  exact ⟨e1.trans e3, e2.trans e4⟩
theorem sw1_le {B : Nat} {mkd : Nat → Bool} {K : KS} (h : bkOK B mkd K) {b : Nat} (hb : b < B) (hu : K.2.2.2.1 b = 1) : Kle B mkd K (sw1 mkd K b) := by
  have io : ∀ w, (w / 32 = b ∧ mkd w = false) ∨ (w / 32 ≠ b ∨ mkd w = true) := by
    intro w
    by_cases q : w / 32 = b
    · cases hm : mkd w
      · exact Or.inl ⟨q, rfl⟩
      · exact Or.inr (Or.inr rfl)
    · exact Or.inr (Or.inl q)
  refine ⟨sw1_ok h hb, fun x hx hn => ?_, fun x hx => ?_, fun x hx hw => ?_⟩
  · have hn' : swN mkd K.1 b x ≠ -1 := hn
    rcases io x with ⟨q, hm⟩ | q
    · exact absurd (swN_in q hm) hn'
    · refine ⟨swN_out q, ?_⟩
      show (if blkE (swN mkd K.1 b) b = true then upd K.2.2.1 b (-1) else K.2.2.1) (x / 32) = _
      split
      · rename_i he
        by_cases q2 : x / 32 = b
        · exact absurd (blkE_iff.mp he x q2) hn'
        · exact upd_n q2
      · rfl
  · show (K.1 x ≠ -1 ∧ (mkd x = true ∨ K.2.2.2.1 (x / 32) = 0)) ↔ (swN mkd K.1 b x ≠ -1 ∧ (mkd x = true ∨ upd K.2.2.2.1 b 0 (x / 32) = 0))
    by_cases q : x / 32 = b
    · rw [q, upd_s, hu]
      cases hm : mkd x with
      | true => rw [swN_out (Or.inr hm)]; simp
      | false => rw [swN_in q hm]; simp
    · rw [swN_out (Or.inl q), upd_n q]
  · have hw' : swW mkd K.2.1 b x = 1 := hw
    rcases io x with ⟨q, hm⟩ | q
    · rw [swW_in q hm] at hw'; exact absurd hw' (by decide)
    · rw [swW_out q] at hw'; exact hw'
theorem free_nm {B : Nat} {mkd : Nat → Bool} {K : KS} (h : bkOK B mkd K) {x : Nat} (hx : x < 32 * B) (hf : K.2.2.1 (x / 32) = -1) : K.1 x = -1 := by
  by_cases q : K.1 x = -1
  · exact q
  · obtain ⟨c, hc, e, -⟩ := h.2.2.1 x hx q
    rw [hf] at e
    exact absurd e (m1_nI (by omega))
theorem opn_le {B : Nat} {mkd : Nat → Bool} {K : KS} (h : bkOK B mkd K) {b c : Nat} (hf : K.2.2.1 b = -1) (hc : c < 4) : Kle B mkd K (opn K b c) := by
  refine ⟨opn_ok h hf hc, fun x hx hn => ⟨rfl, ?_⟩, fun x hx => Iff.rfl, fun x hx hw => hw⟩
  show upd K.2.2.1 b (nI c) (x / 32) = _
  by_cases q : x / 32 = b
  · exact absurd (free_nm h hx (by rw [q]; exact hf)) hn
  · exact upd_n q
theorem cOwn_le {B : Nat} {mkd : Nat → Bool} {c : Nat} : ∀ (n b : Nat) (K : KS), b + n = B → bkOK B mkd K → Kle B mkd K (cOwn mkd c n b K)
  | 0, _, _, _, h => Kle.rf h
  | n + 1, b, K, hb, h => by
    unfold cOwn
    split
    · rename_i hc
      have h1 := sw1_le h (show b < B by omega) hc.2
      split
      · exact h1
      · exact h1.tr (cOwn_le n (b + 1) _ (by omega) h1.1)
    · exact cOwn_le n (b + 1) K (by omega) h
theorem cOth_le {B : Nat} {mkd : Nat → Bool} {c : Nat} : ∀ (n b : Nat) (K : KS), b + n = B → bkOK B mkd K → Kle B mkd K (cOth mkd c n b K).1
  | 0, _, _, _, h => Kle.rf h
  | n + 1, b, K, hb, h => by
    unfold cOth
    split
    · rename_i hc
      have h1 := sw1_le h (show b < B by omega) hc.2
      split
      · exact h1
      · exact h1.tr (cOth_le n (b + 1) _ (by omega) h1.1)
    · exact cOth_le n (b + 1) K (by omega) h
/-- a cell that was found: empty, in a swept block of its class -/
def isC (B c : Nat) (K : KS) (x : Nat) : Prop := x < 32 * B ∧ K.1 x = -1 ∧ K.2.2.1 (x / 32) = nI c ∧ K.2.2.2.1 (x / 32) = 0 ∧ x % 32 % cwd c = 0
theorem opn_C {B : Nat} {mkd : Nat → Bool} {K : KS} (h : bkOK B mkd K) {b c : Nat} (hb : b < B) (hf : K.2.2.1 b = -1) : isC B c (opn K b c) (b * 32) := by
  have e : b * 32 / 32 = b := by omega
  refine ⟨by omega, free_nm h (by omega) (by rw [e]; exact hf), ?_, ?_, ?_⟩
  · rw [e]; exact upd_s
  · rw [e]
    show K.2.2.2.1 b = 0
    rcases h.2.1 b hb with q | q
    · exact q
    · exact absurd hf q.2
  · rw [Nat.mul_mod_left, Nat.zero_mod]
theorem fCell_le {B : Nat} {mkd : Nat → Bool} {c : Nat} {K : KS} (hc : c < 4) (h : bkOK B mkd K) : Kle B mkd K (fCell mkd B c K).1 ∧ ∀ x, (fCell mkd B c K).2 = some x → isC B c (fCell mkd B c K).1 x := by
  have hA : ∀ {K' : KS} {x : Nat}, ecA K' c B 0 = some x → isC B c K' x := by
    intro K' x hx
    obtain ⟨e1, e2, e3, e4, e5⟩ := ecA_lt hc hx
    exact ⟨by omega, e3, e4, e5, e2⟩
  unfold fCell
  cases h1 : ecA K c B 0 with
  | some x => exact ⟨Kle.rf h, fun y hy => by cases hy; exact hA h1⟩
  | none =>
    have l1 := cOwn_le (c := c) B 0 K (by omega) h
    dsimp only
    cases h2 : ecA (cOwn mkd c B 0 K) c B 0 with
    | some x => exact ⟨l1, fun y hy => by cases hy; exact hA h2⟩
    | none =>
      dsimp only
      cases h3 : fFree (cOwn mkd c B 0 K) B with
      | some b =>
        obtain ⟨-, hb, hf, -⟩ := ff_some h3
        have hf := of_decide_eq_true hf
        exact ⟨l1.tr (opn_le l1.1 hf hc), fun y hy => by cases hy; exact opn_C l1.1 (by omega) hf⟩
      | none =>
        dsimp only
        have l2 := cOth_le (c := c) B 0 _ (by omega) l1.1
        have o2 := cOth_ok (c := c) B 0 _ (by omega) l1.1
        cases h4 : cOth mkd c B 0 (cOwn mkd c B 0 K) with
        | mk K2 ob =>
          rw [h4] at l2 o2
          cases ob with
          | none => exact ⟨l1.tr l2, fun y hy => by cases hy⟩
          | some b =>
            obtain ⟨hb, hf⟩ := o2.2 b rfl
            exact ⟨(l1.tr l2).tr (opn_le l2.1 hf hc), fun y hy => by cases hy; exact opn_C l2.1 hb hf⟩
theorem hpOK_iff {N : Nat} {fd kd vl : Nat → Int32} {G G' : Nat → Prop} (h : ∀ x, G x ↔ G' x) (hp : hpOK N fd kd vl G) : hpOK N fd kd vl G' := by
  intro x hx
  obtain ⟨h1, h2, m, h3, h4, h5, h6⟩ := hp x ((h x).mpr hx)
  refine ⟨h1, h2, m, h3, h4, h5, fun j hj => ?_⟩
  rcases h6 j hj with q | ⟨q, y, hy, hg⟩
  · exact Or.inl q
  · exact Or.inr ⟨q, y, hy, (h y).mp hg⟩
theorem Inv.le {B n : Nat} {s : AS} (hI : Inv B n s) {K' : KS} (hK : Kle B (sB s) (sK s) K') : Inv B n (K', s.2) := by
  obtain ⟨i1, i2, i3, i4, i5, ⟨M, hM, hMs, i6⟩, i7, i8⟩ := hI
  have hs : ∀ x, safe B s x ↔ safe B (K', s.2) x := by
    intro x
    unfold safe
    constructor
    · rintro ⟨h1, h2⟩; exact ⟨h1, (hK.2.2.1 x h1).mp h2⟩
    · rintro ⟨h1, h2⟩; exact ⟨h1, (hK.2.2.1 x h1).mpr h2⟩
  refine ⟨hK.1, hpOK_iff hs i2, fun i hi => ?_, ⟨i4.1, fun y hy => (hs y).mp (i4.2 y hy)⟩, ⟨fun w hw => ?_, fun w hw h => ?_, fun x y hx hy h1 h2 h3 => ?_⟩, ⟨M, hM, hMs, fun x hx hn => ?_⟩, fun x y hx hy hn he => ?_, fun x hx hn => ?_⟩
  · rcases i3 i hi with q | ⟨x, hx, hg⟩
    · exact Or.inl q
    · exact Or.inr ⟨x, hx, (hs x).mp hg⟩
  · exact (hK.1.2.2.2.1 w hw).imp id And.left
  · exact (hs w).mp (i5.2.1 w hw (hK.2.2.2 w hw h))
  · have w1 := hK.2.2.2 x hx h1
    have w2 := hK.2.2.2 y hy h2
    have n1 := ((hs x).mp (i5.2.1 x hx w1)).2.1
    have n2 := ((hs y).mp (i5.2.1 y hy w2)).2.1
    exact i5.2.2 x y hx hy w1 w2 (by rw [← (hK.2.1 x hx n1).1, ← (hK.2.1 y hy n2).1]; exact h3)
  · have e := (hK.2.1 x hx hn).1
    obtain ⟨m, h1, h2⟩ := i6 x hx (by rw [← e]; exact hn)
    exact ⟨m, h1, e.trans h2⟩
  · have he' : K'.1 x = K'.1 y := he
    have hny : K'.1 y ≠ -1 := by rw [← he']; exact hn
    have e1 := (hK.2.1 x hx hn).1
    have e2 := (hK.2.1 y hy hny).1
    exact i7 x y hx hy (by rw [← e1]; exact hn) (by rw [← e1, ← e2]; exact he')
  · obtain ⟨e1, e2⟩ := hK.2.1 x hx hn
    obtain ⟨m, h1, h2, h3⟩ := i8 x hx (by rw [← e1]; exact hn)
    exact ⟨m, h1, h2, e2.trans h3⟩
theorem Inv.mono {B n n' : Nat} {s : AS} (hI : Inv B n s) (h : n ≤ n') : Inv B n' s := by
  obtain ⟨i1, i2, i3, i4, i5, ⟨M, hM, hMs, i6⟩, i7, i8⟩ := hI
  exact ⟨i1, i2, i3, i4, i5, ⟨M, by omega, hMs, i6⟩, i7, i8⟩
theorem Inv_mrk {B n : Nat} (hB : B ≤ 16) {s : AS} (hI : Inv B n s) : Inv B n (mrk B s) := by
  obtain ⟨i1, i2, i3, i4, i5, i6, i7, i8⟩ := hI
  obtain ⟨m1, m2, m3, m4, m5, m6, m7⟩ := mrk_facts (nm := (sK s).1) (wt := (sK s).2.1) hB i2 i3 i4.2 i5
  have hN : 32 * B < 2 ^ 31 := by omega
  have hs : ∀ x, safe B (mrk B s) x ↔ x ∈ mL3 B (sK s).1 (sF s) (sK s).2.1 (sD s) (sV s) (sR s) (sQ s) := by
    intro x
    constructor
    · rintro ⟨h1, h2, h3⟩
      have h2 : (sK s).1 x ≠ -1 := h2
      have h3 : decide (x ∈ mL3 B (sK s).1 (sF s) (sK s).2.1 (sD s) (sV s) (sR s) (sQ s)) = true ∨ (if (sK s).2.2.1 (x / 32) = -1 then (0 : Int32) else 1) = 0 := h3
      rcases h3 with h3 | h3
      · exact of_decide_eq_true h3
      · split at h3
        · rename_i hf
          exact absurd (free_nm i1 h1 hf) h2
        · exact absurd h3 (by decide)
    · intro h
      have hg := m4.2 x h
      exact ⟨hg.1, hg.2.1, Or.inl (decide_eq_true h)⟩
  refine ⟨⟨i1.1, fun b hb => ?_, i1.2.2.1, fun w hw => ?_, fun w hw hm => ?_⟩, fun x hx => ?_, fun i hi => ?_, ⟨?_, fun y hy => ?_⟩, ⟨fun w hw => ?_, fun w hw h => ?_, fun x y hx hy h1 h2 h3 => ?_⟩, i6, i7, i8⟩
  · show (if (sK s).2.2.1 b = -1 then (0 : Int32) else 1) = 0 ∨ (if (sK s).2.2.1 b = -1 then (0 : Int32) else 1) = 1 ∧ (sK s).2.2.1 b ≠ -1
    split
    · exact Or.inl rfl
    · rename_i h; exact Or.inr ⟨rfl, h⟩
  · show mW B (sF s) (sK s).2.1 (sD s) (sV s) (sR s) (sQ s) w = 0 ∨ mW B (sF s) (sK s).2.1 (sD s) (sV s) (sR s) (sQ s) w = 1 ∧ (sK s).1 w ≠ -1
    unfold mW wtQ
    cases hc : (Nat.ble (w + 1) (2 * (16 * B)) && (Nat.beq (w % 2) 0 && (decide ((sK s).2.1 w = 1) && !decide (w ∈ mL1 B (sF s) (sD s) (sV s) (sR s) (sQ s))))) with
    | true => exact Or.inl rfl
    | false => exact i1.2.2.2.1 w hw
  · exact (m4.2 w (of_decide_eq_true hm)).2.1
  · have hx := (hs x).mp hx
    obtain ⟨h1, h2, m, h3, h4, h5, h6⟩ := i2 x (m4.2 x hx)
    refine ⟨h1, h2, m, h3, h4, h5, fun j hj => ?_⟩
    have hin : inF (sF s) (mL3 B (sK s).1 (sF s) (sK s).2.1 (sD s) (sV s) (sR s) (sQ s)) (x + 1 + j) = true := by
      unfold inF
      rw [List.any_eq_true]
      refine ⟨x, hx, ?_⟩
      rw [h4, nI_clamp (by omega), Bool.and_eq_true, Nat.ble_eq, Nat.ble_eq]
      omega
    show mK2 B (sK s).1 (sF s) (sK s).2.1 (sD s) (sV s) (sR s) (sQ s) (x + 1 + j) = 0 ∨ ((mK2 B (sK s).1 (sF s) (sK s).2.1 (sD s) (sV s) (sR s) (sQ s) (x + 1 + j) = 1 ∨ mK2 B (sK s).1 (sF s) (sK s).2.1 (sD s) (sV s) (sR s) (sQ s) (x + 1 + j) = 2) ∧ ∃ y, mV2 B (sK s).1 (sF s) (sK s).2.1 (sD s) (sV s) (sR s) (sQ s) (x + 1 + j) = nI y ∧ safe B (mrk B s) y)
    unfold mK2 mV2 loK loV cfK cfV
    rw [hin, Bool.true_and]
    cases hc2 : cutb (mK1 B (sF s) (sD s) (sV s) (sR s) (sQ s)) (mV1 B (sF s) (sD s) (sV s) (sR s) (sQ s)) (mL3 B (sK s).1 (sF s) (sK s).2.1 (sD s) (sV s) (sR s) (sQ s)) (x + 1 + j) with
    | true => exact Or.inl rfl
    | false =>
      rw [cond_false, cond_false]
      have e1 : (inF (sF s) (mL1 B (sF s) (sD s) (sV s) (sR s) (sQ s)) (x + 1 + j) && cutb (sD s) (sV s) (mL1 B (sF s) (sD s) (sV s) (sR s) (sQ s)) (x + 1 + j)) = true → mK1 B (sF s) (sD s) (sV s) (sR s) (sQ s) (x + 1 + j) = nI 0 := by
        intro h; unfold mK1 loK cfK; rw [h, cond_true]
      have e2 : (inF (sF s) (mL1 B (sF s) (sD s) (sV s) (sR s) (sQ s)) (x + 1 + j) && cutb (sD s) (sV s) (mL1 B (sF s) (sD s) (sV s) (sR s) (sQ s)) (x + 1 + j)) = false → mK1 B (sF s) (sD s) (sV s) (sR s) (sQ s) (x + 1 + j) = sD s (x + 1 + j) ∧ mV1 B (sF s) (sD s) (sV s) (sR s) (sQ s) (x + 1 + j) = sV s (x + 1 + j) := by
        intro h; unfold mK1 loK cfK mV1 loV cfV; rw [h, cond_false, cond_false]; exact ⟨rfl, rfl⟩
      cases hc1 : (inF (sF s) (mL1 B (sF s) (sD s) (sV s) (sR s) (sQ s)) (x + 1 + j) && cutb (sD s) (sV s) (mL1 B (sF s) (sD s) (sV s) (sR s) (sQ s)) (x + 1 + j)) with
      | true => exact Or.inl (e1 hc1)
      | false =>
        obtain ⟨ek, ev⟩ := e2 hc1
        rcases h6 j hj with q | ⟨q, y, hy, hg⟩
        · exact Or.inl (ek.trans q)
        · refine Or.inr ⟨by rw [ek]; exact q, y, ev.trans hy, (hs y).mpr ?_⟩
          have hyN := (i2 y hg).1
          rcases q with q | q
          · refine m5 x hx y ?_
            rw [tgs_tgc h4 h3]
            unfold tgc
            refine List.mem_filterMap.mpr ⟨j, List.mem_range'_1.mpr ⟨by omega, by omega⟩, ?_⟩
            rw [if_pos q, hy, nI_clamp (by omega)]
          · unfold cutb at hc2
            rw [ek, ev, q, hy, nI_clamp (by omega)] at hc2
            simpa using hc2
  · rcases i3 i hi with q | ⟨x, hx, hg⟩
    · exact Or.inl q
    · refine Or.inr ⟨x, hx, (hs x).mpr (m6 x (m3 x (insL_mem.mpr (Or.inl (insL_mem.mpr (Or.inr ?_))))))⟩
      refine List.mem_filterMap.mpr ⟨i, List.mem_range'_1.mpr ⟨by omega, by omega⟩, ?_⟩
      have := hg.1
      rw [hx, if_neg (nI_m1 (by omega)), nI_clamp (by omega)]
  · show (sQ s ++ mT B (sK s).1 (sF s) (sK s).2.1 (sD s) (sV s) (sR s) (sQ s)).Nodup
    refine List.nodup_append.mpr ⟨i4.1, (sq_ok i5 _ (16 * B) (by omega)).1, fun x hx y hy e => ?_⟩
    subst e
    exact (sq_mem.mp hy).2.2.2 (m3 x (insL_mem.mpr (Or.inr hx)))
  · rcases List.mem_append.mp hy with h | h
    · exact (hs y).mpr (m6 y (m3 y (insL_mem.mpr (Or.inr h))))
    · exact (hs y).mpr (m7 y h).1
  · show mW B (sF s) (sK s).2.1 (sD s) (sV s) (sR s) (sQ s) w = 0 ∨ mW B (sF s) (sK s).2.1 (sD s) (sV s) (sR s) (sQ s) w = 1
    unfold mW wtQ
    cases hc : (Nat.ble (w + 1) (2 * (16 * B)) && (Nat.beq (w % 2) 0 && (decide ((sK s).2.1 w = 1) && !decide (w ∈ mL1 B (sF s) (sD s) (sV s) (sR s) (sQ s))))) with
    | true => exact Or.inl rfl
    | false => exact i5.1 w hw
  · have h : wtQ (sK s).2.1 (mL1 B (sF s) (sD s) (sV s) (sR s) (sQ s)) (16 * B) w = 1 := h
    unfold wtQ at h
    cases hc : (Nat.ble (w + 1) (2 * (16 * B)) && (Nat.beq (w % 2) 0 && (decide ((sK s).2.1 w = 1) && !decide (w ∈ mL1 B (sF s) (sD s) (sV s) (sR s) (sQ s))))) with
    | true => rw [hc, cond_true] at h; exact absurd h (by decide)
    | false =>
      rw [hc, cond_false] at h
      have hg := i5.2.1 w hw h
      have he := (i2 w hg).2.1
      refine (hs w).mpr (m6 w ?_)
      by_cases q : w ∈ mL1 B (sF s) (sD s) (sV s) (sR s) (sQ s)
      · exact q
      · rw [Bool.eq_false_iff] at hc
        exfalso
        apply hc
        rw [Bool.and_eq_true, Bool.and_eq_true, Bool.and_eq_true, Nat.ble_eq, Nat.beq_eq]
        exact ⟨by omega, he, decide_eq_true h, by simp [q]⟩
  · have key : ∀ z, z < 32 * B → mW B (sF s) (sK s).2.1 (sD s) (sV s) (sR s) (sQ s) z = 1 → (sK s).2.1 z = 1 := by
      intro z hz h
      unfold mW wtQ at h
      cases hc : (Nat.ble (z + 1) (2 * (16 * B)) && (Nat.beq (z % 2) 0 && (decide ((sK s).2.1 z = 1) && !decide (z ∈ mL1 B (sF s) (sD s) (sV s) (sR s) (sQ s))))) with
      | true => rw [hc, cond_true] at h; exact absurd h (by decide)
      | false => rw [hc, cond_false] at h; exact h
    exact i5.2.2 x y hx hy (key x hx h1) (key y hy h2) h3
end
section
theorem Inv_upKV {B n : Nat} {s : AS} (hI : Inv B n s) {w : Nat} {k z : Int32} (hk : k = 0 ∨ ((k = 1 ∨ k = 2) ∧ ∃ y, z = nI y ∧ safe B s y)) : Inv B n (upKV s w k z) := by
  obtain ⟨i1, i2, i3, i4, i5, i6, i7, i8⟩ := hI
  refine ⟨i1, fun x hx => ?_, i3, i4, i5, i6, i7, i8⟩
  obtain ⟨h1, h2, m, h3, h4, h5, h6⟩ := i2 x hx
  refine ⟨h1, h2, m, h3, h4, h5, fun j hj => ?_⟩
  show upd (sD s) w k (x + 1 + j) = 0 ∨ ((upd (sD s) w k (x + 1 + j) = 1 ∨ upd (sD s) w k (x + 1 + j) = 2) ∧ ∃ y, upd (sV s) w z (x + 1 + j) = nI y ∧ safe B s y)
  by_cases q : x + 1 + j = w
  · rw [q, upd_s, upd_s]; exact hk
  · rw [upd_n q, upd_n q]; exact h6 j hj
theorem Inv_upR {B n : Nat} {s : AS} (hI : Inv B n s) {i : Nat} {z : Int32} (hz : z = -1 ∨ ∃ y, z = nI y ∧ safe B s y) : Inv B n (upR s i z) := by
  obtain ⟨i1, i2, i3, i4, i5, i6, i7, i8⟩ := hI
  refine ⟨i1, i2, fun j hj => ?_, i4, i5, i6, i7, i8⟩
  show upd (sR s) i z j = -1 ∨ ∃ x, upd (sR s) i z j = nI x ∧ safe B s x
  by_cases q : j = i
  · rw [q, upd_s]; exact hz
  · rw [upd_n q]; exact i3 j hj
theorem Inv_set {B n : Nat} {s : AS} (hI : Inv B n s) (root field z : Int32) : Inv B n (opSet s root field z).2 := by
  unfold opSet
  split
  · exact hI
  · exact Inv_upKV hI (Or.inl rfl)
theorem Inv_link {B n : Nat} {s : AS} (hI : Inv B n s) (root field to wk : Int32) : Inv B n (opLink s root field to wk).2 := by
  unfold opLink
  rcases ixN_or (n := 16) (by omega) to with ⟨-, e⟩ | ⟨t, ht, rfl, e⟩
  · rw [e]; exact hI
  · rw [e]
    dsimp only
    split
    · exact hI
    · split
      · exact hI
      · rename_i h0
        refine Inv_upKV hI (Or.inr ⟨?_, (hI.2.2.1 t ht).resolve_left h0⟩)
        split
        · exact Or.inl rfl
        · exact Or.inr rfl
theorem Inv_load {B n : Nat} (hB : B ≤ 16) {s : AS} (hI : Inv B n s) (root frm field : Int32) : Inv B n (opLoad s root frm field).2 := by
  unfold opLoad
  split
  · exact hI
  · split
    · exact hI
    · rename_i q hq
      split
      · exact hI
      · rename_i h0
        obtain ⟨i, m, hi, -, hx, -, hjm, hm, hf, hs, hN, hj⟩ := fl_ok hB hI hq
        obtain ⟨-, -, m', hm', hf', -, hj'⟩ := hI.2.1 q.1 hs
        have : m' = m := nI_inj (by omega) (by omega) (hf'.symm.trans hf)
        subst this
        rcases hj' q.2 hjm with h | ⟨-, h⟩
        · exact absurd h h0
        · exact Inv_upR hI (Or.inr h)
theorem Inv_copy {B n : Nat} {s : AS} (hI : Inv B n s) (root frm : Int32) : Inv B n (opCopy s root frm).2 := by
  unfold opCopy
  rcases ixN_or (n := 16) (by omega) root with ⟨-, e⟩ | ⟨i, hi, rfl, e⟩
  · rw [e]; exact hI
  · rcases ixN_or (n := 16) (by omega) frm with ⟨-, e2⟩ | ⟨j, hj, rfl, e2⟩
    · rw [e, e2]; exact hI
    · rw [e, e2]; exact Inv_upR hI (hI.2.2.1 j hj)
theorem Inv_drop {B n : Nat} {s : AS} (hI : Inv B n s) (root : Int32) : Inv B n (opDrop s root).2 := by
  unfold opDrop
  split
  · exact hI
  · exact Inv_upR hI (Or.inl rfl)
theorem Inv_watch {B n : Nat} (hB : B ≤ 16) {s : AS} (hI : Inv B n s) (root on : Int32) (hon : on = 0 ∨ on = 1) : Inv B n (opWatch s root on).2 := by
  unfold opWatch
  rcases ixN_or (n := 16) (by omega) root with ⟨-, e⟩ | ⟨i, hi, rfl, e⟩
  · rw [e]; exact hI
  · rw [e]
    dsimp only
    rcases hI.2.2.1 i hi with h0 | ⟨x, hx, hs⟩
    · rw [if_pos h0]; exact hI
    · have hxN := hs.1
      rw [hx, if_neg (nI_m1 (by omega)), nI_clamp (by omega)]
      obtain ⟨i1, i2, i3, i4, i5, i6, i7, i8⟩ := hI
      have hw1 : ∀ w, w < 32 * B → upd (sK s).2.1 x on w = 1 → safe B s w := by
        intro w hw h
        by_cases q : w = x
        · rw [q]; exact hs
        · rw [upd_n q] at h; exact i5.2.1 w hw h
      refine ⟨⟨i1.1, i1.2.1, i1.2.2.1, fun w hw => ?_, i1.2.2.2.2⟩, i2, i3, i4, ⟨fun w hw => ?_, hw1, fun y z hy hz h1 h2 h3 => ?_⟩, i6, i7, i8⟩
      · show upd (sK s).2.1 x on w = 0 ∨ upd (sK s).2.1 x on w = 1 ∧ (sK s).1 w ≠ -1
        by_cases q : w = x
        · rw [q, upd_s]
          rcases hon with h | h
          · exact Or.inl h
          · exact Or.inr ⟨h, hs.2.1⟩
        · rw [upd_n q]; exact i1.2.2.2.1 w hw
      · show upd (sK s).2.1 x on w = 0 ∨ upd (sK s).2.1 x on w = 1
        by_cases q : w = x
        · rw [q, upd_s]; exact hon
        · rw [upd_n q]; exact i5.1 w hw
      · exact i7 y z hy hz (hw1 y hy h1).2.1 h3
theorem Inv_next {B n : Nat} {s : AS} (hI : Inv B n s) (root : Int32) : Inv B n (opNext s root).2 := by
  unfold opNext
  split
  · exact hI
  · rename_i i hi
    cases hQ : sQ s with
    | nil => exact hI
    | cons x q =>
      obtain ⟨i1, i2, i3, i4, i5, i6, i7, i8⟩ := hI
      rw [hQ] at i4
      refine ⟨i1, i2, fun j hj => ?_, ⟨(List.nodup_cons.mp i4.1).2, fun y hy => i4.2 y (List.mem_cons_of_mem _ hy)⟩, i5, i6, i7, i8⟩
      show upd (sR s) i (nI x) j = -1 ∨ ∃ y, upd (sR s) i (nI x) j = nI y ∧ safe B s y
      by_cases e : j = i
      · rw [e, upd_s]; exact Or.inr ⟨x, rfl, i4.2 x List.mem_cons_self⟩
      · rw [upd_n e]; exact i3 j hj
theorem Inv_sweep {B n : Nat} {s : AS} (hI : Inv B n s) : Inv B n (opSweep B s).2 := by
  unfold opSweep
  cases h : ff (fun b => decide ((sK s).2.2.2.1 b = 1)) B 0 with
  | none => exact hI
  | some b =>
    obtain ⟨-, hb, hp, -⟩ := ff_some h
    exact hI.le (sw1_le hI.1 (by omega) (of_decide_eq_true hp))
/-- room for an object -/
theorem rmC_ok {B n c : Nat} (hB : B ≤ 16) (hc : c < 4) {s : AS} (hI : Inv B n s) : Inv B n (rmC B c s).1 ∧ (∀ x, (rmC B c s).2 = some x → isC B c (sK (rmC B c s).1) x) ∧ sM (rmC B c s).1 = sM s := by
  unfold rmC
  obtain ⟨l1, c1⟩ := fCell_le (B := B) hc hI.1
  cases h : fCell (sB s) B c (sK s) with
  | mk K o =>
    rw [h] at l1 c1
    have hI1 := hI.le l1
    cases o with
    | some x => exact ⟨hI1, fun y hy => by cases hy; exact c1 x rfl, rfl⟩
    | none =>
      have hI2 := Inv_mrk hB hI1
      obtain ⟨l2, c2⟩ := fCell_le (B := B) hc hI2.1
      exact ⟨hI2.le l2, c2, rfl⟩
theorem Inv_make {B n : Nat} (hB : B ≤ 16) (hn : n ≤ 1000) {s : AS} (hI : Inv B n s) (root m : Int32) : Inv B (n + 1) (opMake B s root m).2 := by
  unfold opMake
  rcases ixN_or (n := 16) (by omega) root with ⟨-, e⟩ | ⟨i, hi, rfl, e⟩
  · rw [e]; exact hI.mono (by omega)
  · rcases ixN_or (n := 16) (by omega) m with ⟨-, e2⟩ | ⟨m, hm, rfl, e2⟩
    · rw [e, e2]; exact hI.mono (by omega)
    · rw [e, e2]
      dsimp only
      obtain ⟨r1, r2, r3⟩ := rmC_ok hB (clsF_lt m) hI
      cases h : rmC B (clsF m) s with
      | mk t o =>
        rw [h] at r1 r2 r3
        cases o with
        | none => exact r1.mono (by omega)
        | some x =>
          obtain ⟨c1, c2, c3, c4, c5⟩ := r2 x rfl
          obtain ⟨i1, i2, i3, i4, i5, ⟨M, hM, hMs, i6⟩, i7, i8⟩ := r1
          have c1 : x < 32 * B := c1
          have c2 : (sK t).1 x = -1 := c2
          have c3 : (sK t).2.2.1 (x / 32) = nI (clsF m) := c3
          have c4 : (sK t).2.2.2.1 (x / 32) = 0 := c4
          have hMs : sM t = nI M := hMs
          have hfit := clsF_fit m (by omega)
          have hcl4 := clsF_lt m
          have hcw := cwd_le _ hcl4
          obtain ⟨ci, hci, hxe⟩ := cell_of hcl4 c5
          have hin := cw_in hcl4 hci
          have hxm : x + 1 + m ≤ 32 * B := by omega
          have hev : x % 2 = 0 := by
            have h2 : ∀ c, c < 4 → cwd c % 2 = 0 := by decide
            have h3 := h2 _ hcl4
            have h4 : ci * cwd (clsF m) % 2 = 0 := by rw [Nat.mul_mod, h3, Nat.mul_zero]
            omega
          have hwx : (sK t).2.1 x = 0 := by
            rcases i1.2.2.2.1 x c1 with q | q
            · exact q
            · exact absurd c2 q.2
          have hmx : sB t x = false := by
            cases hq : sB t x with
            | false => rfl
            | true => exact absurd c2 (i1.2.2.2.2 x c1 hq)
          have hne : ∀ y, safe B t y → y ≠ x := fun y hy q => hy.2.1 (q ▸ c2)
          have hsub : ∀ y, safe B t y → safe B ((upd (sK t).1 x (sM t), (sK t).2), upd (sF t) x (nI m), zr (sD t) x m, zr (sV t) x m, upd (sR t) i (nI x), sQ t, sM t + nI 1, sN t, sB t) y := by
            intro y hy
            refine ⟨hy.1, ?_, hy.2.2⟩
            show upd (sK t).1 x (sM t) y ≠ -1
            rw [upd_n (hne y hy)]; exact hy.2.1
          have hsx : safe B ((upd (sK t).1 x (sM t), (sK t).2), upd (sF t) x (nI m), zr (sD t) x m, zr (sV t) x m, upd (sR t) i (nI x), sQ t, sM t + nI 1, sN t, sB t) x := by
            refine ⟨c1, ?_, Or.inr c4⟩
            show upd (sK t).1 x (sM t) x ≠ -1
            rw [upd_s, hMs]; exact nI_m1 (by omega)
          have hback : ∀ y, safe B ((upd (sK t).1 x (sM t), (sK t).2), upd (sF t) x (nI m), zr (sD t) x m, zr (sV t) x m, upd (sR t) i (nI x), sQ t, sM t + nI 1, sN t, sB t) y → y ≠ x → safe B t y := by
            rintro y ⟨h1, h2, h3⟩ q
            have h2 : upd (sK t).1 x (sM t) y ≠ -1 := h2
            rw [upd_n q] at h2
            exact ⟨h1, h2, h3⟩
          refine ⟨⟨i1.1, i1.2.1, fun w hw hn => ?_, fun w hw => ?_, fun w hw hm => ?_⟩, fun y hy => ?_, fun j hj => ?_, ⟨i4.1, fun y hy => hsub y (i4.2 y hy)⟩, ⟨i5.1, fun w hw h => hsub w (i5.2.1 w hw h), fun y z hy hz h1 h2 h3 => ?_⟩, ⟨M + 1, by omega, by show sM t + nI 1 = _; rw [hMs, nI_add], fun y hy hn => ?_⟩, fun y z hy hz hn he => ?_, fun y hy hn => ?_⟩
          · by_cases q : w = x
            · subst q; exact ⟨clsF m, hcl4, c3, c5⟩
            · have hn : upd (sK t).1 x (sM t) w ≠ -1 := hn
              rw [upd_n q] at hn
              exact i1.2.2.1 w hw hn
          · show (sK t).2.1 w = 0 ∨ (sK t).2.1 w = 1 ∧ upd (sK t).1 x (sM t) w ≠ -1
            by_cases q : w = x
            · subst q; exact Or.inl hwx
            · rw [upd_n q]; exact i1.2.2.2.1 w hw
          · show upd (sK t).1 x (sM t) w ≠ -1
            by_cases q : w = x
            · subst q; rw [hmx] at hm; cases hm
            · rw [upd_n q]; exact i1.2.2.2.2 w hw hm
          · by_cases q : y = x
            · subst q
              refine ⟨c1, hev, m, by omega, upd_s, hxm, fun j hj => Or.inl ?_⟩
              show zr (sD t) y m (y + 1 + j) = 0
              have : (Nat.ble (y + 1) (y + 1 + j) && Nat.ble (y + 1 + j) (y + m)) = true := by
                rw [Bool.and_eq_true, Nat.ble_eq, Nat.ble_eq]; omega
              unfold zr; rw [this]; rfl
            · obtain ⟨h1, h2, m', h3, h4, h5, h6⟩ := i2 y (hback y hy q)
              refine ⟨h1, h2, m', h3, (upd_n q).trans h4, h5, fun j hj => ?_⟩
              show zr (sD t) x m (y + 1 + j) = 0 ∨ ((zr (sD t) x m (y + 1 + j) = 1 ∨ zr (sD t) x m (y + 1 + j) = 2) ∧ ∃ z, zr (sV t) x m (y + 1 + j) = nI z ∧ _)
              unfold zr
              cases hz : (Nat.ble (x + 1) (y + 1 + j) && Nat.ble (y + 1 + j) (x + m)) with
              | true => exact Or.inl rfl
              | false =>
                rcases h6 j hj with q | ⟨q, z, hz, hg⟩
                · exact Or.inl q
                · exact Or.inr ⟨q, z, hz, hsub z hg⟩
          · show upd (sR t) i (nI x) j = -1 ∨ ∃ y, upd (sR t) i (nI x) j = nI y ∧ _
            by_cases q : j = i
            · rw [q, upd_s]; exact Or.inr ⟨x, rfl, hsx⟩
            · rw [upd_n q]
              rcases i3 j hj with q | ⟨y, hy, hg⟩
              · exact Or.inl q
              · exact Or.inr ⟨y, hy, hsub y hg⟩
          · have h3 : upd (sK t).1 x (sM t) y = upd (sK t).1 x (sM t) z := h3
            have g1 := hne y (i5.2.1 y hy h1)
            have g2 := hne z (i5.2.1 z hz h2)
            rw [upd_n g1, upd_n g2] at h3
            exact i5.2.2 y z hy hz h1 h2 h3
          · show ∃ k, k < M + 1 ∧ upd (sK t).1 x (sM t) y = nI k
            by_cases q : y = x
            · rw [q, upd_s]; exact ⟨M, by omega, hMs⟩
            · have hn : upd (sK t).1 x (sM t) y ≠ -1 := hn
              rw [upd_n q] at hn ⊢
              obtain ⟨k, hk, hkk⟩ := i6 y hy hn
              exact ⟨k, by omega, hkk⟩
          · have hn : upd (sK t).1 x (sM t) y ≠ -1 := hn
            have he : upd (sK t).1 x (sM t) y = upd (sK t).1 x (sM t) z := he
            by_cases q1 : y = x
            · by_cases q2 : z = x
              · rw [q1, q2]
              · rw [q1, upd_s, upd_n q2, hMs] at he
                obtain ⟨k, hk, hkk⟩ := i6 z hz (by rw [← he]; exact nI_m1 (by omega))
                have := nI_inj (by omega) (by omega) (he.trans hkk)
                omega
            · rw [upd_n q1] at hn he
              by_cases q2 : z = x
              · rw [q2, upd_s, hMs] at he
                obtain ⟨k, hk, hkk⟩ := i6 y hy hn
                have := nI_inj (by omega) (by omega) (hkk.symm.trans he)
                omega
              · rw [upd_n q2] at he
                exact i7 y z hy hz hn he
          · show ∃ k, k ≤ 15 ∧ upd (sF t) x (nI m) y = nI k ∧ (sK t).2.2.1 (y / 32) = nI (clsF k)
            by_cases q : y = x
            · rw [q, upd_s]; exact ⟨m, by omega, rfl, c3⟩
            · have hn : upd (sK t).1 x (sM t) y ≠ -1 := hn
              rw [upd_n q] at hn
              rw [upd_n q]
              exact i8 y hy hn
end
section
theorem zr_0 (f : Nat → Int32) (x : Nat) : zr f x 0 = f := by
  funext w
  unfold zr
  have : (Nat.ble (x + 1) w && Nat.ble w (x + 0)) = false := by
    rw [Bool.eq_false_iff]
    simp only [ne_eq, Bool.and_eq_true, Nat.ble_eq]
    omega
  rw [this]; rfl
theorem zr_s (f : Nat → Int32) (x j : Nat) : upd (zr f x j) (x + 1 + j) (nI 0) = zr f x (j + 1) := by
  funext w
  unfold zr
  by_cases q : w = x + 1 + j
  · subst q
    rw [upd_s]
    have : (Nat.ble (x + 1) (x + 1 + j) && Nat.ble (x + 1 + j) (x + (j + 1))) = true := by
      rw [Bool.and_eq_true, Nat.ble_eq, Nat.ble_eq]; omega
    rw [this]; rfl
  · rw [upd_n q]
    have : (Nat.ble (x + 1) w && Nat.ble w (x + j)) = (Nat.ble (x + 1) w && Nat.ble w (x + (j + 1))) := by
      rw [Bool.eq_iff_iff]
      simp only [Bool.and_eq_true, Nat.ble_eq]
      omega
    rw [this]
section CMK
variable {B : Nat} {a : Nat → Nat → Int32} {v : Nat → Int32} {r : xW}
theorem c_place (hB : B ≤ 16) {x m : Nat} {y : Int32} (hx : x + 1 + m ≤ 32 * B) (hm : m ≤ 15) : Tot none kX2_place [.ref 1, .int (nI x), .int y, .int (nI m)] (wC B a v r) (rN (wC B (setA (setA (setA (setA a 0 (upd (a 0) x y)) 1 (upd (a 1) x (nI m))) 3 (zr (a 3) x m)) 4 (zr (a 4) x m)) v r)) := by
  have loop : ∀ (c j : Nat), j + c = m → V none 39 (rN (wC B (setA (setA (setA (setA a 0 (upd (a 0) x y)) 1 (upd (a 1) x (nI m))) 3 (zr (a 3) x m)) 4 (zr (a 4) x m)) v r)) (0, 0) 29 [(0, .ref 1), (1, .int (nI x)), (2, .int y), (3, .int (nI m)), (4, .int (nI j))] [.int (nI m), .int (nI j)] (wC B (setA (setA (setA (setA a 0 (upd (a 0) x y)) 1 (upd (a 1) x (nI m))) 3 (zr (a 3) x j)) 4 (zr (a 4) x j)) v r) := by
    intro c
    induction c with
    | zero =>
      intro j hj
      have e : j = m := by omega
      subst e
      refine V.brT rfl rfl (nI_le (Nat.le_refl _) (by omega)) ?_
      exact V.rv rfl ⟨rfl, rfl⟩
    | succ c ih =>
      intro j hj
      have ih := ih (j + 1) (by omega)
      rw [← zr_s, ← zr_s] at ih
      refine V.brF rfl rfl (nI_ge (show j < m by omega) (by omega)) ?_
      refine V.run 20 rfl ?_
      refine V.cv rfl (c_write hB (show x + 1 + j < 32 * B by omega)) rfl rfl ?_
      rintro _ _ ⟨rfl, rfl⟩
      refine V.run 20 rfl ?_
      rw [nI_add]
      exact ih
  refine eX2_place ?_
  refine V.run 20 rfl ?_
  refine V.cv rfl (c_isWord1 hB (show x < 32 * B by omega)) rfl rfl ?_
  rintro _ _ ⟨rfl, rfl⟩
  refine V.brT rfl rfl i1_ne0 ?_
  refine V.run 20 rfl ?_
  refine V.iast (w' := wC B (uA a 0 x y) v r) rfl rfl rfl (show x < 32 * B by omega) (by omega) rfl ?_
  refine V.run 20 rfl ?_
  refine V.iast (w' := wC B (uA (uA a 0 x y) 1 x (nI m)) v r) rfl rfl rfl (show x < 32 * B by omega) (by omega) rfl ?_
  refine V.run 20 rfl ?_
  have h := loop m 0 (by omega)
  rw [zr_0, zr_0] at h
  exact h
theorem RepC.fr {s : AS} (hr : RepC B a v s) {a' : Nat → Nat → Int32} {v' : Nat → Int32} (hf : frK B a a' v v') {K' : KS} (hk : repK B a' v' K') : RepC B a' v' (K', s.2) := by
  obtain ⟨f1, f2, f3⟩ := hf
  obtain ⟨h1, h2, h3, h4, h5, h6, h7, h8, h9⟩ := hr
  refine ⟨hk, fun w hw hn => ?_, ?_, ?_, ?_, ?_, ?_, ?_, ?_⟩
  · have hn' : a' 0 w ≠ -1 := by rw [hk.1 w hw]; exact hn
    obtain ⟨e1, e2⟩ := f3 w hw hn'
    rw [e1]
    exact h2 w hw (by rw [← h1.1 w hw, ← e2]; exact hn')
  · rw [f1 3 (by omega) (by omega) (by omega) (by omega) (by omega)]; exact h3
  · rw [f1 4 (by omega) (by omega) (by omega) (by omega) (by omega)]; exact h4
  · rw [f1 12 (by omega) (by omega) (by omega) (by omega) (by omega)]; exact h5
  · rw [f1 9 (by omega) (by omega) (by omega) (by omega) (by omega), f2 6 (by omega)]; exact h6
  · rw [f2 0 (by omega)]; exact h7
  · rw [f2 1 (by omega)]; exact h8
  · rw [f1 6 (by omega) (by omega) (by omega) (by omega) (by omega)]; exact h9
theorem c_cellFor (hB : B ≤ 16) {n : Nat} {s : AS} (hI : Inv B n s) (hr : RepC B a v s) {c : Nat} (hc : c < 4) : Tot none kX4_cellFor [.ref 0, .int (nI c)] (wC B a v r) (fun o w' => o = some (.int (oA (rmC B c s).2)) ∧ ∃ a' v', w' = wC B a' v' r ∧ RepC B a' v' (rmC B c s).1) := by
  refine eX4_cellFor ?_
  refine V.run 20 rfl ?_
  refine V.cv rfl (c_findCell hB hr.2.2.2.2.2.2.2.2 hI.1 hr.1 hc) rfl rfl ?_
  rintro _ _ ⟨rfl, a1, v1, rfl, hf1, hk1⟩
  have hr1 := hr.fr hf1 hk1
  obtain ⟨l1, c1⟩ := fCell_le (B := B) hc hI.1
  have hI1 := hI.le l1
  refine V.run 20 rfl ?_
  unfold rmC
  cases h : fCell (sB s) B c (sK s) with
  | mk K o =>
    rw [h] at hr1 hI1 c1
    cases o with
    | some x =>
      have hx := (c1 x rfl).1
      refine V.brT rfl rfl (oA_m1 (by omega)) ?_
      refine V.run 20 rfl ?_
      exact V.ri rfl ⟨rfl, a1, v1, rfl, hr1⟩
    | none =>
      have hI2 := Inv_mrk hB hI1
      refine V.brF rfl rfl (fun h => h rfl) ?_
      refine V.run 20 rfl ?_
      refine V.cv rfl (c_markAllS hB hI1 hr1) rfl rfl ?_
      rintro _ _ ⟨rfl, a2, v2, rfl, hr2, -⟩
      refine V.run 20 rfl ?_
      refine V.cv rfl (c_findCell hB hr2.2.2.2.2.2.2.2.2 hI2.1 hr2.1 hc) rfl rfl ?_
      rintro _ _ ⟨rfl, a3, v3, rfl, hf3, hk3⟩
      refine V.run 20 rfl ?_
      exact V.ri rfl ⟨rfl, a3, v3, rfl, hr2.fr hf3 hk3⟩
theorem c_make (hB : B ≤ 16) {n : Nat} (hn : n ≤ 1000) {s : AS} (hI : Inv B n s) (hr : RepC B a v s) (root m : Int32) : Tot none kX4_make [.ref 0, .int root, .int m] (wC B a v r) (rC B r (opMake B s root m)) := by
  refine eX4_make ?_
  refine V.run 20 rfl ?_
  unfold opMake
  rcases ixN_or (n := 16) (by omega) root with ⟨hbad, e⟩ | ⟨i, hi, rfl, e⟩
  · rw [e]
    refine V.cs rfl (c_isRoot0 hbad) rfl ?_
    rintro _ _ ⟨rfl, rfl⟩
    refine V.brT rfl rfl i0_eq0 ?_
    refine V.run 20 rfl ?_
    exact V.ri rfl ⟨rfl, a, v, rfl, hr⟩
  · rw [e]
    refine V.cs rfl (c_isRoot1 hi) rfl ?_
    rintro _ _ ⟨rfl, rfl⟩
    refine V.brF rfl rfl i1_ne0 ?_
    refine V.run 20 rfl ?_
    rcases ixN_or (n := 16) (by omega) m with ⟨hbad, e2⟩ | ⟨m, hm, rfl, e2⟩
    · rw [e2]
      refine V.br rfl rfl (fun h => ?_) (fun h => ?_)
      · refine V.run 20 rfl ?_
        exact V.ri rfl ⟨rfl, a, v, rfl, hr⟩
      · refine V.run 20 rfl ?_
        have h6 := hbad.resolve_left h
        refine V.brF rfl rfl (fun q => by
          rw [Int32.le_iff_toInt_le] at h6 q
          rw [nI_toInt (by omega)] at h6 q
          omega) ?_
        refine V.run 20 rfl ?_
        exact V.ri rfl ⟨rfl, a, v, rfl, hr⟩
    · rw [e2]
      dsimp only
      obtain ⟨M, hM, hMs, -⟩ := hI.2.2.2.2.2.1
      refine V.brF rfl rfl (nI_pos (by omega)) ?_
      refine V.run 20 rfl ?_
      refine V.brT rfl rfl (nI_le (by omega) (by omega)) ?_
      refine V.run 20 rfl ?_
      refine V.brT rfl rfl (lt_eq (hr.2.2.2.2.2.2.1.trans hMs) (show M < 2000 by omega) (by omega)) ?_
      refine V.run 20 rfl ?_
      refine V.cs rfl (c_classFor (show m ≤ 15 by omega)) rfl ?_
      rintro _ _ ⟨rfl, rfl⟩
      refine V.cv rfl (c_cellFor hB hI hr (clsF_lt m)) rfl rfl ?_
      rintro _ _ ⟨rfl, a1, v1, rfl, hr1⟩
      obtain ⟨hI1, hc1, hM1⟩ := rmC_ok hB (clsF_lt m) hI
      refine V.run 20 rfl ?_
      cases h : rmC B (clsF m) s with
      | mk t o =>
        rw [h] at hr1 hI1 hc1 hM1
        cases o with
        | none =>
          refine V.brF rfl rfl (fun h => h rfl) ?_
          refine V.run 20 rfl ?_
          exact V.ri rfl ⟨rfl, a1, v1, rfl, hr1⟩
        | some x =>
          obtain ⟨c1, c2, c3, c4, c5⟩ := hc1 x rfl
          have hfit := clsF_fit m (by omega)
          have hcl4 := clsF_lt m
          obtain ⟨ci, hci, hxe⟩ := cell_of hcl4 c5
          have hin := cw_in hcl4 hci
          have hxm : x + 1 + m ≤ 32 * B := by omega
          obtain ⟨h1, h2, h3, h4, h5, h6, h7, h8, h9⟩ := hr1
          have h7 : v1 0 = sM t := h7
          refine V.brT rfl rfl (oA_m1 (by omega)) ?_
          refine V.run 20 rfl ?_
          refine V.puti (w' := wC B a1 (uV v1 0 (v1 0 + nI 1)) r) rfl rfl rfl ?_
          refine V.run 20 rfl ?_
          refine V.cv rfl (c_place hB hxm (by omega)) rfl rfl ?_
          rintro _ _ ⟨rfl, rfl⟩
          refine V.run 20 rfl ?_
          refine V.iast (j := i) rfl rfl rfl hi (by omega) rfl ?_
          refine V.run 20 rfl ?_
          refine V.ri rfl ⟨congrArg (fun z => some (Value.int z)) h7, setA (setA (setA (setA (setA a1 0 (upd (a1 0) x (v1 0))) 1 (upd (a1 1) x (nI m))) 3 (zr (a1 3) x m)) 4 (zr (a1 4) x m)) 12 (upd (a1 12) i (nI x)), uV v1 0 (v1 0 + nI 1), rfl, ⟨fun w hw => ?_, h1.2.1, h1.2.2.1, h1.2.2.2.1, h1.2.2.2.2⟩, fun w hw hn => ?_, fun w hw => ?_, fun w hw => ?_, fun j hj => ?_, h6, ?_, h8, h9⟩
          · show upd (a1 0) x (v1 0) w = upd (sK t).1 x (sM t) w
            by_cases q : w = x
            · rw [q, upd_s, upd_s, h7]
            · rw [upd_n q, upd_n q]; exact h1.1 w hw
          · show upd (a1 1) x (nI m) w = upd (sF t) x (nI m) w
            by_cases q : w = x
            · rw [q, upd_s, upd_s]
            · have hn : upd (sK t).1 x (sM t) w ≠ -1 := hn
              rw [upd_n q] at hn
              rw [upd_n q, upd_n q]; exact h2 w hw hn
          · show zr (a1 3) x m w = zr (sD t) x m w
            unfold zr; rw [h3 w hw]
          · show zr (a1 4) x m w = zr (sV t) x m w
            unfold zr; rw [h4 w hw]
          · show upd (a1 12) i (nI x) j = upd (sR t) i (nI x) j
            by_cases q : j = i
            · rw [q, upd_s, upd_s]
            · rw [upd_n q, upd_n q]; exact h5 j hj
          · show v1 0 + nI 1 = sM t + nI 1
            rw [h7]
end CMK
end
section
/-! THE REFERENCE: its cells, behind nineteen others c. a: 0 sort, 1 unswept, 2 name, 3 fields, 4 marked, 5 watched, 6 kind, 7 value, 8 root, 9 queue, 10 row, 11 place; v: 0 thrown, 1 made, 2 marks, 3 sweeps, 4 queued, 5 size -/
def wM (c : Nat → xC) (B : Nat) (a : Nat → Nat → Int32) (v : Nat → Int32) : xW :=
  c 0 :: c 1 :: c 2 :: c 3 :: c 4 :: c 5 :: c 6 :: c 7 :: c 8 :: c 9 :: c 10 :: c 11 :: c 12 :: c 13 :: c 14 :: c 15 :: c 16 :: c 17 :: c 18 ::
  .inr (5, [.int (v 0), .int (nI B), .int (v 1), .int (v 2), .int (v 3), .ref 20, .ref 21, .ref 22, .ref 23, .ref 24, .ref 25, .ref 26, .ref 27, .ref 28, .int (v 4), .ref 29, .int (v 5), .ref 30, .ref 31]) ::
  .inl (false, 16, a 0) :: .inl (true, 16, a 1) :: .inl (false, 512, a 2) :: .inl (false, 512, a 3) :: .inl (true, 512, a 4) :: .inl (true, 512, a 5) :: .inl (false, 512, a 6) :: .inl (false, 512, a 7) :: .inl (false, 16, a 8) :: .inl (false, 512, a 9) :: .inl (false, 512, a 10) :: .inl (false, 512, a 11) :: []
theorem m_in1 {w : xW} {j h : Nat} (hj : j ≤ h) (hh : h < 2 ^ 31) : Tot none kX5_in [.int (nI j), .int (nI 0), .int (nI h)] w (rI (nI 1) w) := by
  refine eX5_in ?_
  refine V.run 20 rfl ?_
  refine V.brF rfl rfl (nI_nlt (Nat.zero_le j) (by omega)) ?_
  refine V.run 20 rfl ?_
  refine V.brF rfl rfl (nI_nlt hj hh) ?_
  refine V.run 20 rfl ?_
  exact V.rz rfl (Or.inr rfl) ⟨rfl, rfl⟩
theorem m_in0 {w : xW} {x : Int32} {h : Nat} (hh : h + 1 < 2 ^ 31) (hx : x < 0 ∨ nI (h + 1) ≤ x) : Tot none kX5_in [.int x, .int (nI 0), .int (nI h)] w (rI (nI 0) w) := by
  refine eX5_in ?_
  refine V.run 20 rfl ?_
  refine V.br rfl rfl (fun _ => ?_) (fun h => ?_)
  · refine V.run 20 rfl ?_
    exact V.rz rfl (Or.inl rfl) ⟨rfl, rfl⟩
  · refine V.run 20 rfl ?_
    have h6 := hx.resolve_left h
    refine V.brT rfl rfl (by
      rw [Int32.le_iff_toInt_le, nI_toInt hh] at h6
      rw [Int32.lt_iff_toInt_lt, nI_toInt (by omega)]
      omega) ?_
    refine V.run 20 rfl ?_
    exact V.rz rfl (Or.inl rfl) ⟨rfl, rfl⟩
theorem m_isRoot1 {w : xW} {i : Nat} (hi : i < 16) : Tot none kX5_isRoot [.int (nI i)] w (rI (nI 1) w) := by
  refine eX5_isRoot ?_
  refine V.run 20 rfl ?_
  refine V.cs rfl (m_in1 (show i ≤ 15 by omega) (by omega)) rfl ?_
  rintro _ _ ⟨rfl, rfl⟩
  exact V.rz rfl (Or.inr rfl) ⟨rfl, rfl⟩
theorem m_isRoot0 {w : xW} {x : Int32} (hx : x < 0 ∨ nI 16 ≤ x) : Tot none kX5_isRoot [.int x] w (rI (nI 0) w) := by
  refine eX5_isRoot ?_
  refine V.run 20 rfl ?_
  refine V.cs rfl (m_in0 (h := 15) (by omega) hx) rfl ?_
  rintro _ _ ⟨rfl, rfl⟩
  exact V.rz rfl (Or.inl rfl) ⟨rfl, rfl⟩
theorem m_cellOf {w : xW} {c : Nat} (hc : c < 4) : Tot none kX5_cellOf [.int (nI c)] w (rI (nI (cwd c)) w) := by
  refine eX5_cellOf ?_
  refine V.run 10 rfl ?_
  rw [cw_i c hc]
  exact V.ri rfl ⟨rfl, rfl⟩
section MW
variable {c : Nat → xC} {B : Nat} {a : Nat → Nat → Int32} {v : Nat → Int32}
theorem m_begin (hB : B ≤ 16) : Tot none kX5_begin [.ref 19] (wM c B a v) (fun o w' => o = none ∧ ∃ g, w' = wM c B (setA a 11 g) (uV v 5 (nI 0)) ∧ ∀ x, x < 512 → g x = -1) := by
  have loop : ∀ (m i : Nat) (g : Nat → Int32), i + m = 512 → (∀ x, x < i → g x = -1) → V none 89 (fun o w' => o = none ∧ ∃ g, w' = wM c B (setA a 11 g) (uV v 5 (nI 0)) ∧ ∀ x, x < 512 → g x = -1) (0, 0) 11 [(0, .ref 19), (1, .int (nI i))] [.int (nI 512), .int (nI i)] (wM c B (setA a 11 g) (uV v 5 (nI 0))) := by
    intro m
    induction m with
    | zero =>
      intro i g hi hg
      refine V.brT rfl rfl (nI_le (by omega) (by omega)) ?_
      exact V.rv rfl ⟨rfl, g, rfl, fun x hx => hg x (by omega)⟩
    | succ m ih =>
      intro i g hi hg
      refine V.brF rfl rfl (nI_ge (show i < 512 by omega) (by omega)) ?_
      refine V.run 10 rfl ?_
      refine V.iast (w' := wM c B (setA a 11 (upd g i (-1))) (uV v 5 (nI 0))) rfl rfl rfl (show i < 512 by omega) (by omega) rfl ?_
      refine V.run 10 rfl ?_
      rw [nI_add]
      refine ih (i + 1) _ (by omega) (fun x hx => ?_)
      by_cases q : x = i
      · subst q; exact upd_s
      · rw [upd_n q]; exact hg x (by omega)
  refine eX5_begin ?_
  refine V.run 10 rfl ?_
  refine V.puti (w' := wM c B a (uV v 5 (nI 0))) rfl rfl rfl ?_
  refine V.run 10 rfl ?_
  exact loop 512 0 (a 11) (by omega) (fun x hx => absurd hx (Nat.not_lt_zero x))
theorem m_meet0 : Tot none kX5_meet [.ref 19, .int (-1)] (wM c B a v) (rN (wM c B a v)) := by
  refine eX5_meet ?_
  refine V.run 10 rfl ?_
  refine V.brT rfl rfl rfl ?_
  exact V.rv rfl ⟨rfl, rfl⟩
/-- the world behind walking -/
abbrev wMk (c : Nat → xC) (B : Nat) (a : Nat → Nat → Int32) (v : Nat → Int32) (f g : Nat → Int32) (n : Int32) : xW := wM c B (setA (setA a 10 f) 11 g) (uV v 5 n)
theorem m_meet (hB : B ≤ 16) {x : Nat} {L : List Nat} (hx : x < 32 * B) (hW : Wk (32 * B) L (a 10) (a 11) (v 5)) (hl : L.length ≤ 16 * B) : Tot none kX5_meet [.ref 19, .int (nI x)] (wM c B a v) (fun o w' => o = none ∧ ∃ f g n, w' = wMk c B a v f g n ∧ Wk (32 * B) (ins L x) f g n) := by
  refine eX5_meet ?_
  refine V.run 10 rfl ?_
  refine V.brF rfl rfl (nI_m1 (by omega)) ?_
  refine V.run 10 rfl ?_
  refine V.iald rfl rfl rfl (show x < 512 by omega) (by omega) ?_
  refine V.run 10 rfl ?_
  refine V.br rfl rfl (fun h2 => ?_) (fun h2 => ?_)
  · have hm : x ∈ L := by
      by_cases q : x ∈ L
      · exact q
      · exact absurd (hW.2.2.1 x hx q) h2
    exact V.rv rfl ⟨rfl, _, _, _, rfl, by rw [ins_id hm]; exact hW⟩
  · have hm : x ∉ L := fun q => h2 (hW.not (by omega) q)
    have hs := hW.1
    refine V.run 10 rfl ?_
    refine V.iast (w' := wM c B (uA a 11 x (v 5)) v) rfl rfl rfl (show x < 512 by omega) (by omega) rfl ?_
    refine V.run 10 rfl ?_
    refine V.iast (j := L.length) (w' := wM c B (uA (uA a 11 x (v 5)) 10 L.length (nI x)) v) rfl rfl hs (show L.length < 512 by omega) (by omega) rfl ?_
    refine V.run 10 rfl ?_
    refine V.puti (w' := wM c B (uA (uA a 11 x (v 5)) 10 L.length (nI x)) (uV v 5 (v 5 + nI 1))) rfl rfl rfl ?_
    have hA := hW.add hx hm
    refine V.rv rfl ⟨rfl, upd (a 10) L.length (nI x), upd (a 11) x (v 5), v 5 + nI 1, rfl, ?_⟩
    rw [← hs] at hA
    exact hA
theorem m_follow_in (hB : B ≤ 16) {G : Nat → Prop} (hp : hpOK (32 * B) (a 3) (a 6) (a 7) G) {x m i : Nat} (hx : G x) (hm : a 3 x = nI m) (hm15 : m ≤ 15) {Q : Option Value → xW → Prop} : ∀ (q j : Nat) (L : List Nat) (f g : Nat → Int32) (n : Int32), j + q = m → L[i]? = some x → Wk (32 * B) L f g n → Wg B G L →
    (∀ L' f' g' n', L' = insL L (tgc (a 6) (a 7) x j q) → Wk (32 * B) L' f' g' n' → Wg B G L' → V none 91 Q (0, 0) 71 [(0, .ref 19), (1, .int (nI i)), (2, .int (nI (m + 1)))] [] (wMk c B a v f' g' n')) →
    V none 91 Q (0, 0) 22 [(0, .ref 19), (1, .int (nI i)), (2, .int (nI (j + 1)))] [.int (nI i), .ref 30, .ref 23, .int (nI (j + 1))] (wMk c B a v f g n) := by
  obtain ⟨hxN, -, m', hm', hf', hmN, hj'⟩ := hp x hx
  have e : m' = m := nI_inj (by omega) (by omega) (hf'.symm.trans hm)
  subst e
  intro q
  induction q with
  | zero =>
    intro j L f g n hj hi hW hG kk
    have kk := kk L f g n rfl hW hG
    have e : j = m' := by omega
    subst e
    have hil := (List.getElem?_eq_some_iff.mp hi).1
    have hlen := hG.len hp
    refine V.ialE rfl rfl rfl (show i < 512 by omega) (by omega) (hW.2.1 i x hi).1 ?_
    refine V.ialE rfl rfl rfl (show x < 512 by omega) (by omega) hm ?_
    refine V.brT rfl rfl (nI_lt (by omega) (by omega)) ?_
    exact kk
  | succ q ih =>
    intro j L f g n hj hi hW hG kk
    have hil := (List.getElem?_eq_some_iff.mp hi).1
    have hlen := hG.len hp
    have hjN : x + 1 + j < 32 * B := by omega
    have hjm := hj' j (by omega)
    have hfx := (hW.2.1 i x hi).1
    refine V.ialE rfl rfl rfl (show i < 512 by omega) (by omega) hfx ?_
    refine V.ialE rfl rfl rfl (show x < 512 by omega) (by omega) hm ?_
    refine V.brF rfl rfl (nI_nlt (by omega) (by omega)) ?_
    refine V.run 20 rfl ?_
    refine V.ialE rfl rfl rfl (show i < 512 by omega) (by omega) hfx ?_
    refine V.run 20 rfl ?_
    refine V.iald (j := x + 1 + j) rfl rfl (by rw [nI_add]; congr 1; omega) (show x + 1 + j < 512 by omega) (by omega) ?_
    refine V.run 20 rfl ?_
    by_cases h1 : a 6 (x + 1 + j) = 1
    · obtain ⟨y, hy, hyG⟩ : ∃ y, a 7 (x + 1 + j) = nI y ∧ G y := by
        rcases hjm with h0 | ⟨-, h⟩
        · rw [h0] at h1; exact absurd h1 (by decide)
        · exact h
      have hyN := (hp y hyG).1
      rw [tgc_1 h1 hy (by omega)] at kk
      refine V.brF rfl rfl (fun h => h h1) ?_
      refine V.run 20 rfl ?_
      refine V.ialE rfl rfl rfl (show i < 512 by omega) (by omega) hfx ?_
      refine V.run 20 rfl ?_
      refine V.ialE (j := x + 1 + j) rfl rfl (by rw [nI_add]; congr 1; omega) (show x + 1 + j < 512 by omega) (by omega) hy ?_
      refine V.run 20 rfl ?_
      refine V.cv rfl (m_meet hB hyN hW hlen) rfl rfl ?_
      rintro _ _ ⟨rfl, f', g', n', rfl, hW'⟩
      refine V.run 20 rfl ?_
      rw [nI_add]
      exact ih (j + 1) _ f' g' n' (by omega) (ins_get hi) hW' (hG.add1 hyG) kk
    · rw [tgc_0 h1] at kk
      refine V.brT rfl rfl h1 ?_
      refine V.run 20 rfl ?_
      refine V.cv rfl m_meet0 rfl rfl ?_
      rintro _ _ ⟨rfl, rfl⟩
      refine V.run 20 rfl ?_
      rw [nI_add]
      exact ih (j + 1) L f g n (by omega) hi hW hG kk
theorem m_follow (hB : B ≤ 16) {G : Nat → Prop} (hp : hpOK (32 * B) (a 3) (a 6) (a 7) G) {L : List Nat} (hW : Wk (32 * B) L (a 10) (a 11) (v 5)) (hG : Wg B G L) :
    Tot none kX5_follow [.ref 19] (wM c B a v) (fun o w' => o = none ∧ ∃ f g n, w' = wMk c B a v f g n ∧ Wk (32 * B) (fol (tgs (a 3) (a 6) (a 7)) (16 * B + 1) 0 L) f g n ∧ Wg B G (fol (tgs (a 3) (a 6) (a 7)) (16 * B + 1) 0 L)) := by
  have loop : ∀ (m i : Nat) (L R : List Nat) (f g : Nat → Int32) (n : Int32), i + m = 16 * B + 1 → i ≤ L.length → Wk (32 * B) L f g n → Wg B G L → R = fol (tgs (a 3) (a 6) (a 7)) m i L →
      V none 91 (fun o w' => o = none ∧ ∃ f g n, w' = wMk c B a v f g n ∧ Wk (32 * B) R f g n ∧ Wg B G R) (0, 0) 7 [(0, .ref 19), (1, .int (nI i))] [.int n, .int (nI i)] (wMk c B a v f g n) := by
    intro m
    induction m with
    | zero =>
      intro i L R f g n him hiL hW1 hG1 hR
      have := hG1.len hp
      omega
    | succ m ih =>
      intro i L R f g n him hiL hW1 hG1 hR
      have hlen := hG1.len hp
      have hn := hW1.1
      subst hn
      by_cases hlt : i < L.length
      · obtain ⟨x, hx⟩ : ∃ x, L[i]? = some x := ⟨_, List.getElem?_eq_getElem hlt⟩
        have hxG := hG1.2 x (List.mem_of_getElem? hx)
        obtain ⟨hxN, -, q, hq15, hfq, -, -⟩ := hp x hxG
        have hR' : R = fol (tgs (a 3) (a 6) (a 7)) m (i + 1) (insL L (tgc (a 6) (a 7) x 0 q)) := by
          rw [hR, fol, if_pos hlt, List.getD_eq_getElem?_getD, hx, ← tgs_tgc hfq hq15]
          rfl
        refine V.brF rfl rfl (nI_ge hlt (by omega)) ?_
        refine V.run 20 rfl ?_
        refine m_follow_in hB hp hxG hfq hq15 q 0 L f g _ (by omega) hx hW1 hG1 (fun L' f' g' n' hL' hW' hG' => ?_)
        refine V.run 20 rfl ?_
        rw [nI_add]
        refine V.lt 2 rfl ?_
        refine ih (i + 1) L' R f' g' n' (by omega) ?_ hW' hG' (by rw [hL']; exact hR')
        obtain ⟨M, hM⟩ := insL_pre (tgc (a 6) (a 7) x 0 q) L
        rw [hL', hM, List.length_append]
        omega
      · have hR' : R = L := by rw [hR, fol, if_neg hlt]
        subst hR'
        refine V.brT rfl rfl (nI_le (by omega) (by omega)) ?_
        exact V.rv rfl ⟨rfl, f, g, _, rfl, hW1, hG1⟩
  refine eX5_follow ?_
  refine V.run 20 rfl ?_
  exact loop (16 * B + 1) 0 L _ (a 10) (a 11) (v 5) (by omega) (Nat.zero_le _) hW hG rfl
theorem m_reach (hB : B ≤ 16) {G : Nat → Prop} (hp : hpOK (32 * B) (a 3) (a 6) (a 7) G) (hr : rtOK (a 8) G) {Qs : List Nat} (hq : Ql Qs (a 9) (v 4)) (hqG : Wg B G Qs) :
    Tot none kX5_reach [.ref 19] (wM c B a v) (fun o w' => o = none ∧ ∃ f g n, w' = wMk c B a v f g n ∧ Wk (32 * B) (mL1 B (a 3) (a 6) (a 7) (a 8) Qs) f g n ∧ Wg B G (mL1 B (a 3) (a 6) (a 7) (a 8) Qs)) := by
  have hql := hqG.len hp
  have loop2 : ∀ (q j : Nat) (L : List Nat) (f g : Nat → Int32) (n : Int32), j + q = Qs.length → Wk (32 * B) L f g n → Wg B G L → insL L (Qs.drop j) = heldL (a 8) Qs →
      V none 92 (fun o w' => o = none ∧ ∃ f g n, w' = wMk c B a v f g n ∧ Wk (32 * B) (mL1 B (a 3) (a 6) (a 7) (a 8) Qs) f g n ∧ Wg B G (mL1 B (a 3) (a 6) (a 7) (a 8) Qs)) (0, 0) 35 [(0, .ref 19), (1, .int (nI j))] [.int (v 4), .int (nI j)] (wMk c B a v f g n) := by
    intro q
    induction q with
    | zero =>
      intro j L f g n hj hW hG hh
      have e : Qs.drop j = [] := List.drop_eq_nil_of_le (by omega)
      rw [e, insL_nil] at hh
      subst hh
      refine V.brT rfl rfl (le_eq hq.1 (by omega) (by omega)) ?_
      refine V.run 20 rfl ?_
      refine V.cv rfl (m_follow hB (G := G) (by exact hp) (by exact hW) hG) rfl rfl ?_
      rintro _ _ ⟨rfl, f', g', n', rfl, hW', hG'⟩
      exact V.rv rfl ⟨rfl, f', g', n', rfl, hW', hG'⟩
    | succ q ih =>
      intro j L f g n hj hW hG hh
      obtain ⟨x, hx⟩ : ∃ x, Qs[j]? = some x := ⟨_, List.getElem?_eq_getElem (by omega)⟩
      have e : Qs.drop j = x :: Qs.drop (j + 1) := by
        obtain ⟨h1, h2⟩ := List.getElem?_eq_some_iff.mp hx
        rw [← h2]
        exact List.drop_eq_getElem_cons h1
      rw [e, insL_cons] at hh
      have hxG := hqG.2 x (List.mem_of_getElem? hx)
      have hxN := (hp x hxG).1
      refine V.brF rfl rfl (fun h => nI_ge (show j < Qs.length by omega) (by omega) (hq.1 ▸ h)) ?_
      refine V.run 20 rfl ?_
      refine V.ialE rfl rfl rfl (show j < 512 by omega) (by omega) (hq.2 j x hx) ?_
      refine V.cv rfl (m_meet hB hxN hW (hG.len hp)) rfl rfl ?_
      rintro _ _ ⟨rfl, f', g', n', rfl, hW'⟩
      refine V.run 20 rfl ?_
      rw [nI_add]
      exact ih (j + 1) _ f' g' n' (by omega) hW' (hG.add1 hxG) hh
  have loop1 : ∀ (q j : Nat) (L : List Nat) (f g : Nat → Int32) (n : Int32), j + q = 16 → Wk (32 * B) L f g n → Wg B G L → insL (insL L (rts (a 8) j q)) Qs = heldL (a 8) Qs →
      V none 92 (fun o w' => o = none ∧ ∃ f g n, w' = wMk c B a v f g n ∧ Wk (32 * B) (mL1 B (a 3) (a 6) (a 7) (a 8) Qs) f g n ∧ Wg B G (mL1 B (a 3) (a 6) (a 7) (a 8) Qs)) (0, 0) 9 [(0, .ref 19), (1, .int (nI j))] [.int (nI 16), .int (nI j)] (wMk c B a v f g n) := by
    intro q
    induction q with
    | zero =>
      intro j L f g n hj hW hG hh
      have e : rts (a 8) j 0 = [] := rfl
      rw [e, insL_nil] at hh
      refine V.brT rfl rfl (nI_le (by omega) (by omega)) ?_
      refine V.run 20 rfl ?_
      exact loop2 Qs.length 0 L f g n (by omega) hW hG hh
    | succ q ih =>
      intro j L f g n hj hW hG hh
      refine V.brF rfl rfl (nI_ge (show j < 16 by omega) (by omega)) ?_
      refine V.run 20 rfl ?_
      rcases hr j (by omega) with h0 | ⟨x, hx, hxG⟩
      · rw [rts_0 h0] at hh
        refine V.ialE rfl rfl rfl (show j < 16 by omega) (by omega) h0 ?_
        refine V.cv rfl m_meet0 rfl rfl ?_
        rintro _ _ ⟨rfl, rfl⟩
        refine V.run 20 rfl ?_
        rw [nI_add]
        exact ih (j + 1) L f g n (by omega) hW hG hh
      · have hxN := (hp x hxG).1
        rw [rts_1 hx (by omega), insL_cons] at hh
        refine V.ialE rfl rfl rfl (show j < 16 by omega) (by omega) hx ?_
        refine V.cv rfl (m_meet hB hxN hW (hG.len hp)) rfl rfl ?_
        rintro _ _ ⟨rfl, f', g', n', rfl, hW'⟩
        refine V.run 20 rfl ?_
        rw [nI_add]
        exact ih (j + 1) _ f' g' n' (by omega) hW' (hG.add1 hxG) hh
  refine eX5_reach ?_
  refine V.run 20 rfl ?_
  refine V.cv rfl (m_begin hB) rfl rfl ?_
  rintro _ _ ⟨rfl, g, rfl, hg⟩
  refine V.run 20 rfl ?_
  exact loop1 16 0 [] (a 10) g (nI 0) (by omega) (Wk.nil (fun x hx => hg x (by omega))) ⟨List.nodup_nil, fun y h => by simp at h⟩ rfl
end MW
end
section
theorem fol_skip {T : Nat → List Nat} {L : List Nat} {i : Nat} (hi : i ≤ L.length) (hc : ∀ k x, k < i → L[k]? = some x → ∀ y ∈ T x, y ∈ L) (n : Nat) : ∀ (d j : Nat), j + d = i → fol T (d + n) j L = fol T n i L
  | 0, j, h => by rw [Nat.zero_add, show j = i by omega]
  | d + 1, j, h => by
    rw [show d + 1 + n = (d + n) + 1 by omega, fol, if_pos (by omega)]
    have hx : L[j]? = some (L.getD j 0) := by
      rw [List.getD_eq_getElem?_getD, List.getElem?_eq_getElem (show j < L.length by omega)]
      rfl
    rw [insL_id (hc j _ (by omega) hx)]
    exact fol_skip hi hc n d (j + 1) (by omega)
section MC
variable {c : Nat → xC} {B : Nat} {a : Nat → Nat → Int32} {v : Nat → Int32}
abbrev wMKV (c : Nat → xC) (B : Nat) (a : Nat → Nat → Int32) (v : Nat → Int32) (kd vl : Nat → Int32) : xW := wM c B (setA (setA a 6 kd) 7 vl) v
theorem m_loos_in (hB : B ≤ 16) {G : Nat → Prop} (hp : hpOK (32 * B) (a 3) (a 6) (a 7) G) {L L1 : List Nat} (hW : Wk (32 * B) L (a 10) (a 11) (v 5)) (hG : Wg B G L) {x m i : Nat} (hxi : L[i]? = some x) (hm : a 3 x = nI m) (hm15 : m ≤ 15) {Q : Option Value → xW → Prop}
    (kk : V none 93 Q (0, 0) 86 [(0, .ref 19), (1, .int (nI i))] [] (wMKV c B a v (cfK (a 6) (a 7) L (inF (a 3) (L1 ++ [x]))) (cfV (a 6) (a 7) L (inF (a 3) (L1 ++ [x]))))) : ∀ (q j : Nat), j + q = m →
    V none 93 Q (0, 0) 25 [(0, .ref 19), (1, .int (nI i)), (2, .int (nI (x + 1 + j)))] [.int (nI i), .ref 30, .int (nI (x + 1 + j))] (wMKV c B a v (cfK (a 6) (a 7) L (prJ (a 3) L1 x j)) (cfV (a 6) (a 7) L (prJ (a 3) L1 x j))) := by
  have hx := hG.2 x (List.mem_of_getElem? hxi)
  obtain ⟨hxN, -, m', hm', hf', hmN, hj'⟩ := hp x hx
  have e : m' = m := nI_inj (by omega) (by omega) (hf'.symm.trans hm)
  subst e
  have hlen := hG.len hp
  have hil := (List.getElem?_eq_some_iff.mp hxi).1
  have hfx := (hW.2.1 i x hxi).1
  intro q
  induction q with
  | zero =>
    intro j hj
    have e : j = m' := by omega
    subst e
    rw [prJ_m hm hm15]
    refine V.ialE rfl rfl rfl (show i < 512 by omega) (by omega) hfx ?_
    refine V.run 20 rfl ?_
    refine V.ialE rfl rfl rfl (show i < 512 by omega) (by omega) hfx ?_
    refine V.ialE rfl rfl rfl (show x < 512 by omega) (by omega) hm ?_
    refine V.run 20 rfl ?_
    rw [nI_add]
    refine V.brT rfl rfl (nI_lt (by omega) (by omega)) ?_
    exact V.lt 2 rfl kk
  | succ q ih =>
    intro j hj
    have hjN : x + 1 + j < 32 * B := by omega
    have hjm := hj' j (by omega)
    have hpr := prJ_s (a 3) L1 x j
    have ih := ih (j + 1) (by omega)
    refine V.ialE rfl rfl rfl (show i < 512 by omega) (by omega) hfx ?_
    refine V.run 20 rfl ?_
    refine V.ialE rfl rfl rfl (show i < 512 by omega) (by omega) hfx ?_
    refine V.ialE rfl rfl rfl (show x < 512 by omega) (by omega) hm ?_
    refine V.run 20 rfl ?_
    rw [nI_add]
    refine V.brF rfl rfl (nI_nlt (by omega) (by omega)) ?_
    refine V.run 20 rfl ?_
    refine V.iald rfl rfl rfl (show x + 1 + j < 512 by omega) (by omega) ?_
    refine V.run 20 rfl ?_
    by_cases hk : cfK (a 6) (a 7) L (prJ (a 3) L1 x j) (x + 1 + j) = 2
    · obtain ⟨-, hk2, hv2⟩ := cf_un hk
      obtain ⟨y, hy, hyG⟩ : ∃ y, a 7 (x + 1 + j) = nI y ∧ G y := by
        rcases hjm with h0 | ⟨-, h⟩
        · rw [h0] at hk2; exact absurd hk2 (by decide)
        · exact h
      have hyN := (hp y hyG).1
      have hvy : cfV (a 6) (a 7) L (prJ (a 3) L1 x j) (x + 1 + j) = nI y := hv2.trans hy
      refine V.brF rfl rfl (fun h => h hk) ?_
      refine V.run 20 rfl ?_
      refine V.ialE rfl rfl rfl (show x + 1 + j < 512 by omega) (by omega) hvy ?_
      by_cases hyL : y ∈ L
      · obtain ⟨e1, e2⟩ := cf_keep (kd := a 6) (vl := a 7) (L := L) hpr (fun h => h.2 (by rw [hvy, nI_clamp (by omega)]; exact hyL))
        rw [← e1, ← e2] at ih
        refine V.iald rfl rfl rfl (show y < 512 by omega) (by omega) ?_
        refine V.run 20 rfl ?_
        refine V.brT rfl rfl (hW.not (by omega) hyL) ?_
        refine V.run 20 rfl ?_
        rw [nI_add]
        exact ih
      · obtain ⟨e1, e2⟩ := cf_cut (kd := a 6) (vl := a 7) (L := L) hpr hk (by rw [hvy, nI_clamp (by omega)]; exact hyL)
        rw [← e1, ← e2] at ih
        refine V.ialE rfl rfl rfl (show y < 512 by omega) (by omega) (hW.2.2.1 y hyN hyL) ?_
        refine V.run 20 rfl ?_
        refine V.brF rfl rfl (fun h => h rfl) ?_
        refine V.run 20 rfl ?_
        refine V.iast rfl rfl rfl (show x + 1 + j < 512 by omega) (by omega) rfl ?_
        refine V.run 20 rfl ?_
        refine V.iast rfl rfl rfl (show x + 1 + j < 512 by omega) (by omega) rfl ?_
        refine V.run 20 rfl ?_
        rw [nI_add]
        exact ih
    · obtain ⟨e1, e2⟩ := cf_keep (kd := a 6) (vl := a 7) (L := L) hpr (fun h => hk h.1)
      rw [← e1, ← e2] at ih
      refine V.brT rfl rfl hk ?_
      refine V.run 20 rfl ?_
      rw [nI_add]
      exact ih
theorem m_loosen (hB : B ≤ 16) {G : Nat → Prop} (hp : hpOK (32 * B) (a 3) (a 6) (a 7) G) {L : List Nat} (hW : Wk (32 * B) L (a 10) (a 11) (v 5)) (hG : Wg B G L) :
    Tot none kX5_loosen [.ref 19] (wM c B a v) (rN (wMKV c B a v (loK (a 3) (a 6) (a 7) L) (loV (a 3) (a 6) (a 7) L))) := by
  have hlen := hG.len hp
  have loop : ∀ (q i : Nat), i + q = L.length → V none 93 (rN (wMKV c B a v (loK (a 3) (a 6) (a 7) L) (loV (a 3) (a 6) (a 7) L))) (0, 0) 7 [(0, .ref 19), (1, .int (nI i))] [.int (v 5), .int (nI i)] (wMKV c B a v (cfK (a 6) (a 7) L (inF (a 3) (L.take i))) (cfV (a 6) (a 7) L (inF (a 3) (L.take i)))) := by
    intro q
    induction q with
    | zero =>
      intro i hi
      rw [List.take_of_length_le (by omega)]
      refine V.brT rfl rfl (le_eq hW.1 (by omega) (by omega)) ?_
      exact V.rv rfl ⟨rfl, rfl⟩
    | succ q ih =>
      intro i hi
      have hlt : i < L.length := by omega
      obtain ⟨x, hx⟩ : ∃ x, L[i]? = some x := ⟨_, List.getElem?_eq_getElem hlt⟩
      have hfx := (hW.2.1 i x hx).1
      have hxG := hG.2 x (List.mem_of_getElem? hx)
      obtain ⟨hxN, -, m, hq15, hfq, -, -⟩ := hp x hxG
      have et : L.take (i + 1) = L.take i ++ [x] := by rw [List.take_add_one, hx]; rfl
      have ih := ih (i + 1) (by omega)
      rw [et] at ih
      refine V.brF rfl rfl (fun h => nI_ge hlt (by omega) (hW.1 ▸ h)) ?_
      refine V.run 20 rfl ?_
      refine V.ialE rfl rfl rfl (show i < 512 by omega) (by omega) hfx ?_
      refine V.run 20 rfl ?_
      rw [nI_add]
      have h := m_loos_in (c := c) (L1 := L.take i) (i := i) hB hp hW hG hx hfq hq15 (Q := rN (wMKV c B a v (loK (a 3) (a 6) (a 7) L) (loV (a 3) (a 6) (a 7) L))) (by
        refine V.run 20 rfl ?_
        rw [nI_add]
        exact ih) m 0 (by omega)
      rw [prJ_0] at h
      exact h
  refine eX5_loosen ?_
  refine V.run 20 rfl ?_
  have h := loop L.length 0 (by omega)
  rw [List.take_zero, (cf_nil (a 6) (a 7) L (a 3)).1, (cf_nil (a 6) (a 7) L (a 3)).2] at h
  exact h
end MC
end
section
theorem insL_app (L xs ys : List Nat) : insL L (xs ++ ys) = insL (insL L xs) ys := List.foldl_append
section MN
variable {c : Nat → xC} {B : Nat} {a : Nat → Nat → Int32} {v : Nat → Int32}
set_option maxRecDepth 20000 in
/-- its last loop: blocks are unswept -/
theorem m_mk9 (hB : B ≤ 16) {bf fr mo : Int32} {Q : Option Value → xW → Prop} (kk : ∀ u : Nat → Int32, (∀ b, b < B → u b = if a 0 b = -1 then 0 else 1) → Q none (wM c B (setA a 1 u) v)) : ∀ (m i : Nat) (u : Nat → Int32), i + m = B → (∀ b, b < i → u b = if a 0 b = -1 then 0 else 1) →
    V none 94 Q (0, 0) 278 [(0, .ref 19), (1, .int bf), (2, .int fr), (3, .int mo), (4, .int (nI i))] [.int (nI B), .int (nI i)] (wM c B (setA a 1 u) v) := by
  intro m
  induction m with
  | zero =>
    intro i u hi hu
    refine V.brT rfl rfl (nI_le (by omega) (by omega)) ?_
    refine V.rv rfl ?_
    exact kk u (fun b hb => hu b (by omega))
  | succ m ih =>
    intro i u hi hu
    have hib : i < B := by omega
    have key : ∀ z : Int32, (z = if a 0 i = -1 then 0 else 1) → ∀ b, b < i + 1 → upd u i z b = if a 0 b = -1 then 0 else 1 := by
      intro z hz b hb
      by_cases q : b = i
      · subst q; rw [upd_s]; exact hz
      · rw [upd_n q]; exact hu b (by omega)
    refine V.brF rfl rfl (nI_ge hib (by omega)) ?_
    refine V.run 20 rfl ?_
    refine V.iald rfl rfl rfl (show i < 16 by omega) (by omega) ?_
    refine V.run 20 rfl ?_
    refine V.br rfl rfl (fun h => ?_) (fun h => ?_)
    · refine V.run 20 rfl ?_
      refine V.zast (w' := wM c B (setA a 1 (upd u i (nI 0))) v) rfl rfl rfl (show i < 16 by omega) (by omega) (Or.inl rfl) rfl ?_
      refine V.run 20 rfl ?_
      rw [nI_add]
      exact ih (i + 1) _ (by omega) (key (nI 0) (by rw [if_pos (show a 0 i = -1 from h)]; rfl))
    · refine V.run 20 rfl ?_
      refine V.zast (w' := wM c B (setA a 1 (upd u i (nI 1))) v) rfl rfl rfl (show i < 16 by omega) (by omega) (Or.inr rfl) rfl ?_
      refine V.run 20 rfl ?_
      rw [nI_add]
      exact ih (i + 1) _ (by omega) (key (nI 1) (by rw [if_neg (show ¬ a 0 i = -1 from h)]; rfl))
/-- the loop before it: what has a place is marked -/
theorem m_mk8 (hB : B ≤ 16) {bf fr mo : Int32} {Q : Option Value → xW → Prop} (kk : ∀ (k u : Nat → Int32), (∀ w, w < 512 → k w = if a 11 w = -1 then 0 else 1) → (∀ b, b < B → u b = if a 0 b = -1 then 0 else 1) → Q none (wM c B (setA (setA a 4 k) 1 u) v)) : ∀ (m i : Nat) (k : Nat → Int32), i + m = 512 → (∀ w, w < i → k w = if a 11 w = -1 then 0 else 1) →
    V none 94 Q (0, 0) 237 [(0, .ref 19), (1, .int bf), (2, .int fr), (3, .int mo), (4, .int (nI i))] [.int (nI 512), .int (nI i)] (wM c B (setA a 4 k) v) := by
  intro m
  induction m with
  | zero =>
    intro i k hi hk
    refine V.brT rfl rfl (nI_le (by omega) (by omega)) ?_
    refine V.run 20 rfl ?_
    exact m_mk9 (a := setA a 4 k) hB (fun u hu => kk k u (fun w hw => hk w (by omega)) hu) B 0 (a 1) (by omega) (fun b hb => absurd hb (Nat.not_lt_zero b))
  | succ m ih =>
    intro i k hi hk
    have key : ∀ z : Int32, (z = if a 11 i = -1 then 0 else 1) → ∀ b, b < i + 1 → upd k i z b = if a 11 b = -1 then 0 else 1 := by
      intro z hz b hb
      by_cases q : b = i
      · subst q; rw [upd_s]; exact hz
      · rw [upd_n q]; exact hk b (by omega)
    refine V.brF rfl rfl (nI_ge (show i < 512 by omega) (by omega)) ?_
    refine V.run 20 rfl ?_
    refine V.iald rfl rfl rfl (show i < 512 by omega) (by omega) ?_
    refine V.run 20 rfl ?_
    refine V.br rfl rfl (fun h => ?_) (fun h => ?_)
    · refine V.run 20 rfl ?_
      refine V.zast (w' := wM c B (setA a 4 (upd k i (nI 0))) v) rfl rfl rfl (show i < 512 by omega) (by omega) (Or.inl rfl) rfl ?_
      refine V.run 20 rfl ?_
      rw [nI_add]
      exact ih (i + 1) _ (by omega) (key (nI 0) (by rw [if_pos (show a 11 i = -1 from h)]; rfl))
    · refine V.run 20 rfl ?_
      refine V.zast (w' := wM c B (setA a 4 (upd k i (nI 1))) v) rfl rfl rfl (show i < 512 by omega) (by omega) (Or.inr rfl) rfl ?_
      refine V.run 20 rfl ?_
      rw [nI_add]
      exact ih (i + 1) _ (by omega) (key (nI 1) (by rw [if_neg (show ¬ a 11 i = -1 from h)]; rfl))
/-- those that came to the queue are watched no more, and met -/
theorem m_mk5 (hB : B ≤ 16) {G : Nat → Prop} (hp : hpOK (32 * B) (a 3) (a 6) (a 7) G) {Q0 T L : List Nat} (hq : Ql (Q0 ++ T) (a 9) (v 4)) (hqG : Wg B G (Q0 ++ T)) {bf mo : Int32} {Q : Option Value → xW → Prop}
    (kk : ∀ wt f g n, (∀ w, w < 32 * B → wt w = if w ∈ T then 0 else a 5 w) → Wk (32 * B) (insL L T) f g n → Wg B G (insL L T) → V none 94 Q (0, 0) 221 [(0, .ref 19), (1, .int bf), (2, .int (nI Q0.length)), (3, .int mo)] [] (wMk c B (setA a 5 wt) v f g n)) :
    ∀ (m j : Nat) (wt f g : Nat → Int32) (n : Int32), j + m = T.length → (∀ w, w < 32 * B → wt w = if w ∈ T.take j then 0 else a 5 w) → Wk (32 * B) (insL L (T.take j)) f g n → Wg B G (insL L (T.take j)) →
    V none 94 Q (0, 0) 188 [(0, .ref 19), (1, .int bf), (2, .int (nI Q0.length)), (3, .int mo), (4, .int (nI (Q0.length + j)))] [.int (v 4), .int (nI (Q0.length + j))] (wMk c B (setA a 5 wt) v f g n) := by
  have hql := hqG.len hp
  rw [List.length_append] at hql
  have hv4 : v 4 = nI (Q0.length + T.length) := by rw [hq.1, List.length_append]
  intro m
  induction m with
  | zero =>
    intro j wt f g n hj hwt hW hG
    rw [List.take_of_length_le (by omega)] at hwt hW hG
    refine V.brT rfl rfl (le_eq hv4 (by omega) (by omega)) ?_
    exact V.lt 4 rfl (kk wt f g n hwt hW hG)
  | succ m ih =>
    intro j wt f g n hj hwt hW hG
    obtain ⟨y, hy⟩ : ∃ y, T[j]? = some y := ⟨_, List.getElem?_eq_getElem (by omega)⟩
    have hyT := List.mem_of_getElem? hy
    have hyG := hqG.2 y (List.mem_append_right _ hyT)
    have hyN := (hp y hyG).1
    have et : T.take (j + 1) = T.take j ++ [y] := by rw [List.take_add_one, hy]; rfl
    have hfy : a 9 (Q0.length + j) = nI y := hq.2 _ y (by rw [List.getElem?_append_right (by omega), Nat.add_sub_cancel_left]; exact hy)
    refine V.brF rfl rfl (fun h => nI_ge (show Q0.length + j < Q0.length + T.length by omega) (by omega) (hv4 ▸ h)) ?_
    refine V.run 20 rfl ?_
    refine V.ialE rfl rfl rfl (show Q0.length + j < 512 by omega) (by omega) hfy ?_
    refine V.run 20 rfl ?_
    refine V.zast (w' := wMk c B (setA a 5 (upd wt y (nI 0))) v f g n) rfl rfl rfl (show y < 512 by omega) (by omega) (Or.inl rfl) rfl ?_
    refine V.run 20 rfl ?_
    refine V.ialE rfl rfl rfl (show Q0.length + j < 512 by omega) (by omega) hfy ?_
    refine V.cv rfl (m_meet hB hyN (by exact hW) (hG.len hp)) rfl rfl ?_
    rintro _ _ ⟨rfl, f', g', n', rfl, hW'⟩
    refine V.run 20 rfl ?_
    rw [nI_add]
    have ei : insL L (T.take (j + 1)) = ins (insL L (T.take j)) y := by rw [et, insL_app]; rfl
    refine ih (j + 1) (upd wt y (nI 0)) f' g' n' (by omega) (fun w hw => ?_) (by rw [ei]; exact hW') (by rw [ei]; exact hG.add1 hyG)
    rw [et]
    by_cases q : w = y
    · subst q
      rw [upd_s, if_pos (List.mem_append_right _ (List.mem_singleton.mpr rfl))]
      rfl
    · rw [upd_n q, hwt w hw]
      have : w ∈ T.take j ++ [y] ↔ w ∈ T.take j := by simp [q]
      simp only [this]
/-- the least name beyond: the inner search -/
theorem m_mk4i (hB : B ≤ 16) {L T2 : List Nat} {bf fr : Int32} (hW : Wk (32 * B) L (a 10) (a 11) (v 5)) (hl : L.length < 2 ^ 31) (hwt : ∀ w, w < 32 * B → a 5 w = 0 ∨ a 5 w = 1) (hT2 : ∀ w, w < 32 * B → (w ∈ T2 ↔ a 5 w = 1 ∧ w ∉ L ∧ bf < a 2 w)) {Q : Option Value → xW → Prop}
    (kk : ∀ lw : Int32, ((lw = -1 ∧ ∀ u, u < 32 * B → u ∉ T2) ∨ ∃ l, lw = nI l ∧ l ∈ T2 ∧ l < 32 * B ∧ ∀ u, u < 32 * B → u ∈ T2 → a 2 l ≤ a 2 u) → V none 94 Q (0, 0) 131 [(0, .ref 19), (1, .int bf), (2, .int fr), (3, .int (nI 1)), (4, .int lw)] [] (wM c B a v)) :
    ∀ (m w : Nat) (lw : Int32), w + m = 32 * B → ((lw = -1 ∧ ∀ u, u < w → u ∉ T2) ∨ ∃ l, lw = nI l ∧ l ∈ T2 ∧ l < w ∧ ∀ u, u < w → u ∈ T2 → a 2 l ≤ a 2 u) →
    V none 94 Q (0, 0) 46 [(0, .ref 19), (1, .int bf), (2, .int fr), (3, .int (nI 1)), (4, .int lw), (5, .int (nI w))] [.int (nI (32 * B)), .int (nI w)] (wM c B a v) := by
  intro m
  induction m with
  | zero =>
    intro w lw hw hl
    have e : w = 32 * B := by omega
    subst e
    refine V.brT rfl rfl (nI_le (Nat.le_refl _) (by omega)) ?_
    exact V.lt 5 rfl (kk lw hl)
  | succ m ih =>
    intro w lw hw hlw
    have hwB : w < 32 * B := by omega
    have skip : w ∉ T2 → V none 94 Q (0, 0) 85 [(0, .ref 19), (1, .int bf), (2, .int fr), (3, .int (nI 1)), (4, .int lw), (5, .int (nI w))] [] (wM c B a v) := by
      intro hn
      refine V.run 20 rfl ?_
      refine V.brT rfl rfl i0_eq0 ?_
      refine V.run 20 rfl ?_
      rw [nI_add, pk_mul]
      refine V.lt 6 rfl ?_
      refine ih (w + 1) lw (by omega) ?_
      rcases hlw with ⟨h1, h2⟩ | ⟨l, h1, h2, h3, h4⟩
      · refine Or.inl ⟨h1, fun u hu => ?_⟩
        by_cases q : u = w
        · rw [q]; exact hn
        · exact h2 u (by omega)
      · refine Or.inr ⟨l, h1, h2, by omega, fun u hu hut => ?_⟩
        by_cases q : u = w
        · exact absurd (q ▸ hut) hn
        · exact h4 u (by omega) hut
    refine V.brF rfl rfl (nI_ge hwB (by omega)) ?_
    refine V.run 20 rfl ?_
    refine V.iald rfl rfl rfl (show w < 512 by omega) (by omega) ?_
    refine V.run 20 rfl ?_
    refine V.br rfl rfl (fun h => ?_) (fun h => ?_)
    · refine V.lt 6 rfl (skip (fun q => ?_))
      have := ((hT2 w hwB).mp q).2.2
      exact absurd h (Int32.not_le.mpr this)
    · refine V.run 20 rfl ?_
      rcases hwt w hwB with h0 | h1
      · refine V.zalE rfl rfl rfl (show w < 512 by omega) (by omega) h0 ?_
        refine V.brT rfl rfl rfl ?_
        refine V.lt 6 rfl (skip (fun q => ?_))
        rw [((hT2 w hwB).mp q).1] at h0
        exact absurd h0 (by decide)
      · refine V.zalE rfl rfl rfl (show w < 512 by omega) (by omega) h1 ?_
        refine V.brF rfl rfl (by decide) ?_
        refine V.run 20 rfl ?_
        by_cases hL : w ∈ L
        · refine V.iald rfl rfl rfl (show w < 512 by omega) (by omega) ?_
          refine V.run 20 rfl ?_
          refine V.brT rfl rfl (hW.not hl hL) ?_
          exact V.lt 6 rfl (skip (fun q => ((hT2 w hwB).mp q).2.1 hL))
        · have hin : w ∈ T2 := (hT2 w hwB).mpr ⟨h1, hL, Int32.not_le.mp h⟩
          refine V.ialE rfl rfl rfl (show w < 512 by omega) (by omega) (hW.2.2.1 w hwB hL) ?_
          refine V.run 20 rfl ?_
          refine V.brF rfl rfl (fun h => h rfl) ?_
          refine V.run 20 rfl ?_
          refine V.brF rfl rfl i1_ne0 ?_
          refine V.run 20 rfl ?_
          rcases hlw with ⟨rfl, h2⟩ | ⟨l, rfl, h2, h3, h4⟩
          · refine V.brT rfl rfl rfl ?_
            refine V.run 20 rfl ?_
            rw [nI_add, pk_mul]
            refine V.lt 6 rfl ?_
            refine ih (w + 1) (nI w) (by omega) (Or.inr ⟨w, rfl, hin, by omega, fun u hu hut => ?_⟩)
            by_cases q : u = w
            · rw [q]; exact Int32.le_refl _
            · exact absurd hut (h2 u (by omega))
          · refine V.brF rfl rfl (nI_m1 (by omega)) ?_
            refine V.run 20 rfl ?_
            refine V.iald rfl rfl rfl (show w < 512 by omega) (by omega) ?_
            refine V.run 20 rfl ?_
            refine V.iald rfl rfl rfl (show l < 512 by omega) (by omega) ?_
            refine V.br rfl rfl (fun hge => ?_) (fun hlt => ?_)
            · refine V.run 20 rfl ?_
              rw [nI_add, pk_mul]
              refine V.lt 6 rfl ?_
              refine ih (w + 1) (nI l) (by omega) (Or.inr ⟨l, rfl, h2, by omega, fun u hu hut => ?_⟩)
              by_cases q : u = w
              · rw [q]; exact hge
              · exact h4 u (by omega) hut
            · refine V.run 20 rfl ?_
              rw [nI_add, pk_mul]
              refine V.lt 6 rfl ?_
              refine ih (w + 1) (nI w) (by omega) (Or.inr ⟨w, rfl, hin, by omega, fun u hu hut => ?_⟩)
              by_cases q : u = w
              · rw [q]; exact Int32.le_refl _
              · exact Int32.le_of_lt (i32_tl (Int32.not_le.mp hlt) (h4 u (by omega) hut))
end MN
end
section
theorem Ql.add {L : List Nat} {f : Nat → Int32} {n : Int32} (h : Ql L f n) (x : Nat) : Ql (L ++ [x]) (upd f L.length (nI x)) (n + nI 1) := by
  obtain ⟨h1, h2⟩ := h
  refine ⟨by rw [h1, nI_add, List.length_append]; rfl, fun i y hi => ?_⟩
  by_cases q : i < L.length
  · rw [List.getElem?_append_left q] at hi
    rw [upd_n (by omega)]
    exact h2 i y hi
  · have hl := (List.getElem?_eq_some_iff.mp hi).1
    rw [List.length_append, List.length_singleton] at hl
    have e : i = L.length := by omega
    subst e
    rw [List.getElem?_append_right (Nat.le_refl _), Nat.sub_self] at hi
    cases hi
    exact upd_s
section MN2
variable {c : Nat → xC} {B : Nat} {a : Nat → Nat → Int32} {v : Nat → Int32}
/-- the queue's new members, the least name first -/
theorem m_mk4 (hB : B ≤ 16) {G : Nat → Prop} (hp : hpOK (32 * B) (a 3) (a 6) (a 7) G) {L : List Nat} (hW : Wk (32 * B) L (a 10) (a 11) (v 5)) (hG : Wg B G L) (hwt : wtOK (32 * B) (a 2) (a 5) G) {Q0 T : List Nat} (hT : T = sq (a 2) (a 5) L (16 * B)) (hqG : Wg B G (Q0 ++ T)) {Q : Option Value → xW → Prop}
    (kk : ∀ bf fq nq, Ql (Q0 ++ T) fq nq → V none 94 Q (0, 0) 179 [(0, .ref 19), (1, .int bf), (2, .int (nI Q0.length)), (3, .int (nI 0))] [] (wM c B (setA a 9 fq) (uV v 4 nq))) :
    ∀ (m : Nat) (T1 T2 : List Nat) (fq : Nat → Int32) (nq bf : Int32), T2.length = m → T1 ++ T2 = T → Ql (Q0 ++ T1) fq nq → (∀ y ∈ T1, a 2 y ≤ bf) → (∀ y ∈ T2, bf < a 2 y) →
    V none 94 Q (0, 0) 28 [(0, .ref 19), (1, .int bf), (2, .int (nI Q0.length)), (3, .int (nI 1))] [.int (nI 1)] (wM c B (setA a 9 fq) (uV v 4 nq)) := by
  have hlen := hG.len hp
  have hql := hqG.len hp
  have hTm : ∀ w, w ∈ T ↔ w < 32 * B ∧ w % 2 = 0 ∧ a 5 w = 1 ∧ w ∉ L := fun w => by
    rw [hT, sq_mem, show 2 * (16 * B) = 32 * B by omega]
  have hsr : srt (a 2) T := by rw [hT]; exact (sq_ok hwt L (16 * B) (by omega)).2
  have hnd : T.Nodup := by rw [hT]; exact (sq_ok hwt L (16 * B) (by omega)).1
  intro m
  induction m with
  | zero =>
    intro T1 T2 fq nq bf hm hTT hq h1 h2
    have e : T2 = [] := List.eq_nil_of_length_eq_zero hm
    subst e
    rw [List.append_nil] at hTT
    subst hTT
    refine V.brF rfl rfl i1_ne0 ?_
    refine V.run 20 rfl ?_
    rw [pk_mul]
    refine m_mk4i (T2 := []) hB (by exact hW) (by omega) (by exact hwt.1) (fun w hw => ?_) (fun lw hlw => ?_) (32 * B) 0 (-1) (by omega) (Or.inl ⟨rfl, fun u hu => absurd hu (Nat.not_lt_zero u)⟩)
    · constructor
      · intro h; simp at h
      · rintro ⟨q1, q2, q3⟩
        have q3 : bf < a 2 w := q3
        have := h1 w ((hTm w).mpr ⟨hw, (hp w (hwt.2.1 w hw q1)).2.1, q1, q2⟩)
        exact absurd this (Int32.not_le.mpr q3)
    · rcases hlw with ⟨rfl, -⟩ | ⟨l, -, h, -⟩
      · refine V.run 20 rfl ?_
        refine V.brT rfl rfl rfl ?_
        refine V.run 20 rfl ?_
        refine V.brT rfl rfl i0_eq0 ?_
        refine V.run 20 rfl ?_
        refine V.brT rfl rfl i0_eq0 ?_
        exact V.lt 4 rfl (kk bf fq nq hq)
      · simp at h
  | succ m ih =>
    intro T1 T2 fq nq bf hm hTT hq h1 h2
    have hlT : T1.length + T2.length = T.length := by rw [← hTT, List.length_append]
    have hlQ : Q0.length + T.length ≤ 16 * B := by rw [List.length_append] at hql; exact hql
    refine V.brF rfl rfl i1_ne0 ?_
    refine V.run 20 rfl ?_
    rw [pk_mul]
    refine m_mk4i (T2 := T2) hB (by exact hW) (by omega) (by exact hwt.1) (fun w hw => ?_) (fun lw hlw => ?_) (32 * B) 0 (-1) (by omega) (Or.inl ⟨rfl, fun u hu => absurd hu (Nat.not_lt_zero u)⟩)
    · show w ∈ T2 ↔ a 5 w = 1 ∧ w ∉ L ∧ bf < a 2 w
      constructor
      · intro h
        have := (hTm w).mp (hTT ▸ List.mem_append_right _ h)
        exact ⟨this.2.2.1, this.2.2.2, h2 w h⟩
      · rintro ⟨q1, q2, q3⟩
        have := (hTm w).mpr ⟨hw, (hp w (hwt.2.1 w hw q1)).2.1, q1, q2⟩
        rw [← hTT] at this
        rcases List.mem_append.mp this with h | h
        · exact absurd (h1 w h) (Int32.not_le.mpr q3)
        · exact h
    · rcases hlw with ⟨-, hn⟩ | ⟨l, rfl, hl, hlB, hmin⟩
      · cases T2 with
        | nil => simp at hm
        | cons y r =>
          have hy : y ∈ T := hTT ▸ List.mem_append_right _ List.mem_cons_self
          exact absurd List.mem_cons_self (hn y ((hTm y).mp hy).1)
      · have hmin : ∀ u, u < 32 * B → u ∈ T2 → a 2 l ≤ a 2 u := hmin
        cases T2 with
        | nil => simp at hl
        | cons y r =>
          have hs2 : srt (a 2) (y :: r) := by
            rw [← hTT] at hsr
            exact (List.pairwise_append.mp hsr).2.1
          have hs3 := List.pairwise_cons.mp hs2
          have ely : l = y := by
            rcases List.mem_cons.mp hl with h | h
            · exact h
            · have h5 := hs3.1 l h
              have hy : y ∈ T := hTT ▸ List.mem_append_right _ List.mem_cons_self
              exact absurd (hmin y ((hTm y).mp hy).1 List.mem_cons_self) (Int32.not_le.mpr h5)
          subst ely
          simp only [List.length_cons] at hm hlT
          have hnq : nq = nI (Q0 ++ T1).length := hq.1
          have hl1 : (Q0 ++ T1).length = Q0.length + T1.length := List.length_append
          refine V.run 20 rfl ?_
          refine V.brF rfl rfl (nI_m1 (by omega)) ?_
          refine V.run 20 rfl ?_
          refine V.brF rfl rfl i1_ne0 ?_
          refine V.run 20 rfl ?_
          refine V.iald rfl rfl rfl (show l < 512 by omega) (by omega) ?_
          refine V.run 20 rfl ?_
          refine V.iast (w' := wM c B (setA a 9 (upd fq (Q0 ++ T1).length (nI l))) (uV v 4 nq)) rfl rfl hnq (show (Q0 ++ T1).length < 512 by omega) (by omega) rfl ?_
          refine V.run 20 rfl ?_
          refine V.puti (w' := wM c B (setA a 9 (upd fq (Q0 ++ T1).length (nI l))) (uV v 4 (nq + nI 1))) rfl rfl rfl ?_
          refine V.run 20 rfl ?_
          refine V.lt 4 rfl ?_
          refine ih (T1 ++ [l]) r _ _ (a 2 l) (by omega) (by rw [← hTT, List.append_assoc]; rfl) (by rw [← List.append_assoc]; exact hq.add l) (fun z hz => ?_) (fun z hz => hs3.1 z hz)
          rcases List.mem_append.mp hz with h | h
          · exact Int32.le_trans (h1 z h) (Int32.le_of_lt (h2 l List.mem_cons_self))
          · rw [List.mem_singleton.mp h]; exact Int32.le_refl _
theorem m_markNow (hB : B ≤ 16) {G : Nat → Prop} (hp : hpOK (32 * B) (a 3) (a 6) (a 7) G) (hr : rtOK (a 8) G) (hwt : wtOK (32 * B) (a 2) (a 5) G) (hnm : ∀ w, w < 32 * B → a 5 w = 1 → -1 < a 2 w) {Qs : List Nat} (hq : Ql Qs (a 9) (v 4)) (hqG : Wg B G Qs) :
    Tot none kX5_markNow [.ref 19] (wM c B a v) (fun o w' => o = none ∧ ∃ wt fq nq f g n k u,
      w' = wM c B (setA (setA (setA (setA (setA (setA (setA (setA a 5 wt) 6 (mK2 B (a 2) (a 3) (a 5) (a 6) (a 7) (a 8) Qs)) 7 (mV2 B (a 2) (a 3) (a 5) (a 6) (a 7) (a 8) Qs)) 9 fq) 10 f) 11 g) 4 k) 1 u) (uV (uV (uV v 2 (v 2 + nI 1)) 4 nq) 5 n) ∧
      (∀ w, w < 32 * B → wt w = mW B (a 3) (a 5) (a 6) (a 7) (a 8) Qs w) ∧ Ql (Qs ++ mT B (a 2) (a 3) (a 5) (a 6) (a 7) (a 8) Qs) fq nq ∧
      Wk (32 * B) (mL3 B (a 2) (a 3) (a 5) (a 6) (a 7) (a 8) Qs) f g n ∧ Wg B G (mL3 B (a 2) (a 3) (a 5) (a 6) (a 7) (a 8) Qs) ∧ (∀ w, w < 512 → k w = if g w = -1 then 0 else 1) ∧ ∀ b, b < B → u b = if a 0 b = -1 then 0 else 1) := by
  obtain ⟨f1, f2, f3, f4, f5, f6, f7⟩ := mrk_facts hB hp hr hqG.2 hwt
  refine eX5_markNow ?_
  refine V.run 20 rfl ?_
  refine V.puti (w' := wM c B a (uV v 2 (v 2 + nI 1))) rfl rfl rfl ?_
  refine V.run 20 rfl ?_
  refine V.cv rfl (m_reach hB (G := G) (Qs := Qs) (by exact hp) (by exact hr) (by exact hq) hqG) rfl rfl ?_
  rintro _ _ ⟨rfl, ff1, g1, n1, rfl, hW1, hG1⟩
  refine V.run 20 rfl ?_
  refine V.cv rfl (m_loosen hB (G := G) (by exact hp) (by exact hW1) hG1) rfl rfl ?_
  rintro _ _ ⟨rfl, rfl⟩
  refine V.run 20 rfl ?_
  have hQL : ∀ y ∈ Qs, y ∈ mL1 B (a 3) (a 6) (a 7) (a 8) Qs := fun y hy => f3 y (insL_mem.mpr (Or.inr hy))
  have hqT : Wg B G (Qs ++ mT B (a 2) (a 3) (a 5) (a 6) (a 7) (a 8) Qs) := by
    refine ⟨List.nodup_append.mpr ⟨hqG.1, (sq_ok hwt _ (16 * B) (by omega)).1, ?_⟩, fun y hy => ?_⟩
    · intro x hx y hy e
      subst e
      exact (sq_mem.mp hy).2.2.2 (hQL x hx)
    · rcases List.mem_append.mp hy with h | h
      · exact hqG.2 y h
      · exact (f7 y h).2
  have hp1 := hpOK_lo hp (mL1 B (a 3) (a 6) (a 7) (a 8) Qs)
  rw [show uV (uV v 2 (v 2 + nI 1)) 5 n1 4 = nI Qs.length from hq.1]
  refine m_mk4 (T := mT B (a 2) (a 3) (a 5) (a 6) (a 7) (a 8) Qs) (Q0 := Qs) (fq := a 9) (nq := v 4) (a := setA (setA (setA (setA a 10 ff1) 11 g1) 6 (loK (a 3) (a 6) (a 7) (mL1 B (a 3) (a 6) (a 7) (a 8) Qs))) 7 (loV (a 3) (a 6) (a 7) (mL1 B (a 3) (a 6) (a 7) (a 8) Qs))) (v := uV (uV v 2 (v 2 + nI 1)) 5 n1) hB (G := G) (by exact hp1) (by exact hW1) hG1 (by exact hwt) (by rfl) hqT (fun bf fq nq hq' => ?_) _ [] _ (-1) rfl rfl (by rw [List.append_nil]; exact hq) (fun y hy => by simp at hy) (fun y hy => ?_)
  · refine V.run 20 rfl ?_
    refine m_mk5 (Q0 := Qs) (T := mT B (a 2) (a 3) (a 5) (a 6) (a 7) (a 8) Qs) (L := mL1 B (a 3) (a 6) (a 7) (a 8) Qs) hB (G := G) (a := setA (setA (setA (setA (setA a 10 ff1) 11 g1) 6 (loK (a 3) (a 6) (a 7) (mL1 B (a 3) (a 6) (a 7) (a 8) Qs))) 7 (loV (a 3) (a 6) (a 7) (mL1 B (a 3) (a 6) (a 7) (a 8) Qs))) 9 fq) (v := uV (uV (uV v 2 (v 2 + nI 1)) 5 n1) 4 nq) (by exact hp1) (by exact hq') hqT (fun wt f g n hwt' hW2 hG2 => ?_) _ 0 (a 5) ff1 g1 n1 (Nat.zero_add _) (fun w hw => by rw [List.take_zero, if_neg (by simp)]; rfl) hW1 hG1
    refine V.run 20 rfl ?_
    refine V.cv rfl (m_follow hB (G := G) (by exact hp1) (by exact hW2) hG2) rfl rfl ?_
    rintro _ _ ⟨rfl, f9, g9, n9, rfl, hW3, hG3⟩
    have e3 : fol (tgs (a 3) (loK (a 3) (a 6) (a 7) (mL1 B (a 3) (a 6) (a 7) (a 8) Qs)) (loV (a 3) (a 6) (a 7) (mL1 B (a 3) (a 6) (a 7) (a 8) Qs))) (16 * B + 1) 0 (insL (mL1 B (a 3) (a 6) (a 7) (a 8) Qs) (mT B (a 2) (a 3) (a 5) (a 6) (a 7) (a 8) Qs)) = mL3 B (a 2) (a 3) (a 5) (a 6) (a 7) (a 8) Qs := by
      obtain ⟨M, hM⟩ := insL_pre (mT B (a 2) (a 3) (a 5) (a 6) (a 7) (a 8) Qs) (mL1 B (a 3) (a 6) (a 7) (a 8) Qs)
      have hl := f1.len hp
      have := fol_skip (T := tgs (a 3) (loK (a 3) (a 6) (a 7) (mL1 B (a 3) (a 6) (a 7) (a 8) Qs)) (loV (a 3) (a 6) (a 7) (mL1 B (a 3) (a 6) (a 7) (a 8) Qs))) (L := insL (mL1 B (a 3) (a 6) (a 7) (a 8) Qs) (mT B (a 2) (a 3) (a 5) (a 6) (a 7) (a 8) Qs)) (i := (mL1 B (a 3) (a 6) (a 7) (a 8) Qs).length) (by rw [hM, List.length_append]; omega) (fun k x hk hx y hy => by
        rw [hM, List.getElem?_append_left hk] at hx
        rw [tgs_lo] at hy
        exact insL_mem.mpr (Or.inl (f2 x (List.mem_of_getElem? hx) y hy))) (16 * B + 1 - (mL1 B (a 3) (a 6) (a 7) (a 8) Qs).length) (mL1 B (a 3) (a 6) (a 7) (a 8) Qs).length 0 (Nat.zero_add _)
      rw [show (mL1 B (a 3) (a 6) (a 7) (a 8) Qs).length + (16 * B + 1 - (mL1 B (a 3) (a 6) (a 7) (a 8) Qs).length) = 16 * B + 1 by omega] at this
      exact this
    have hW3 : Wk (32 * B) (mL3 B (a 2) (a 3) (a 5) (a 6) (a 7) (a 8) Qs) f9 g9 n9 := by rw [← e3]; exact hW3
    refine V.run 20 rfl ?_
    refine V.cv rfl (m_loosen hB (G := G) (by exact hp1) (by exact hW3) f4) rfl rfl ?_
    rintro _ _ ⟨rfl, rfl⟩
    refine V.run 20 rfl ?_
    refine m_mk8 (a := setA (setA (setA (setA (setA (setA a 5 wt) 6 (mK2 B (a 2) (a 3) (a 5) (a 6) (a 7) (a 8) Qs)) 7 (mV2 B (a 2) (a 3) (a 5) (a 6) (a 7) (a 8) Qs)) 9 fq) 10 f9) 11 g9) (v := uV (uV (uV v 2 (v 2 + nI 1)) 4 nq) 5 n9) hB (fun k u hk hu => ?_) 512 0 (a 4) (by omega) (fun w hw => absurd hw (Nat.not_lt_zero w))
    refine ⟨rfl, wt, fq, nq, f9, g9, n9, k, u, rfl, fun w hw => ?_, hq', hW3, f4, hk, hu⟩
    rw [hwt' w hw]
    unfold mW wtQ
    have e : (w ∈ mT B (a 2) (a 3) (a 5) (a 6) (a 7) (a 8) Qs) ↔ w % 2 = 0 ∧ a 5 w = 1 ∧ w ∉ mL1 B (a 3) (a 6) (a 7) (a 8) Qs := by
      unfold mT
      rw [sq_mem]
      exact ⟨fun h => h.2, fun h => ⟨by omega, h⟩⟩
    have e1 : Nat.ble (w + 1) (2 * (16 * B)) = true := by simp only [Nat.ble_eq]; omega
    show (if w ∈ mT B (a 2) (a 3) (a 5) (a 6) (a 7) (a 8) Qs then 0 else a 5 w) = _
    simp only [e]
    rw [e1, Bool.true_and]
    by_cases q : w % 2 = 0 ∧ a 5 w = 1 ∧ w ∉ mL1 B (a 3) (a 6) (a 7) (a 8) Qs
    · rw [if_pos q]; simp [q.1, q.2.1, q.2.2]; rfl
    · rw [if_neg q]
      have : (Nat.beq (w % 2) 0 && (decide (a 5 w = 1) && !decide (w ∈ mL1 B (a 3) (a 6) (a 7) (a 8) Qs))) = false := by
        rw [Bool.eq_false_iff]
        intro h
        simp only [Bool.and_eq_true, Nat.beq_eq, decide_eq_true_eq, Bool.not_eq_true', decide_eq_false_iff_not] at h
        exact q h
      rw [this]; rfl
  · have := sq_mem.mp hy
    exact hnm y (by omega) this.2.2.1
end MN2
end
section
/-! the reference's blocks hold K -/
def rpK (B : Nat) (a : Nat → Nat → Int32) (v : Nat → Int32) (K : KS) : Prop := (∀ w, w < 32 * B → a 2 w = K.1 w) ∧ (∀ w, w < 32 * B → a 5 w = K.2.1 w) ∧ (∀ b, b < B → a 0 b = K.2.2.1 b) ∧ (∀ b, b < B → a 1 b = K.2.2.2.1 b) ∧ v 3 = K.2.2.2.2
def frM (a a' : Nat → Nat → Int32) (v v' : Nat → Int32) : Prop := (∀ i, i ≠ 0 → i ≠ 1 → i ≠ 2 → i ≠ 5 → a' i = a i) ∧ ∀ i, i ≠ 3 → v' i = v i
theorem frM.rf (a : Nat → Nat → Int32) (v : Nat → Int32) : frM a a v v := ⟨fun _ _ _ _ _ => rfl, fun _ _ => rfl⟩
theorem frM.tr {a a' a'' : Nat → Nat → Int32} {v v' v'' : Nat → Int32} (h1 : frM a a' v v') (h2 : frM a' a'' v' v'') : frM a a'' v v'' :=
  ⟨fun i p1 p2 p3 p4 => (h2.1 i p1 p2 p3 p4).trans (h1.1 i p1 p2 p3 p4), fun i p => (h2.2 i p).trans (h1.2 i p)⟩
theorem setA_n {a : Nat → Nat → Int32} {i j : Nat} {f : Nat → Int32} (h : j ≠ i) : setA a i f j = a j := by
  have : Nat.beq j i = false := by rw [Bool.eq_false_iff]; exact fun z => h (Nat.eq_of_beq_eq_true z)
  simp [setA, this]
theorem uA_n {a : Nat → Nat → Int32} {i j k : Nat} {x : Int32} (h : j ≠ i) : uA a i k x j = a j := by
  have : Nat.beq j i = false := by rw [Bool.eq_false_iff]; exact fun z => h (Nat.eq_of_beq_eq_true z)
  simp [uA, this]
theorem uV_n {v : Nat → Int32} {i j : Nat} {x : Int32} (h : j ≠ i) : uV v i x j = v j := by
  have : Nat.beq j i = false := by rw [Bool.eq_false_iff]; exact fun z => h (Nat.eq_of_beq_eq_true z)
  simp [uV, this]
/-- which words are marked -/
def mkM (B : Nat) (k : Nat → Int32) (mkd : Nat → Bool) : Prop := ∀ w, w < 32 * B → k w = if mkd w = true then 1 else 0
theorem cn_all {p : Nat → Bool} : ∀ {n : Nat}, cn p n = n ↔ ∀ i, i < n → p i = true
  | 0 => ⟨fun _ i h => absurd h (Nat.not_lt_zero i), fun _ => rfl⟩
  | n + 1 => by
    unfold cn
    have ih := cn_all (p := p) (n := n)
    have hl := cn_le p n
    cases hp : p n with
    | true =>
      rw [cond_true]
      constructor
      · intro h i hi
        by_cases q : i = n
        · rw [q]; exact hp
        · exact ih.mp (by omega) i (by omega)
      · intro h
        rw [ih.mpr (fun i hi => h i (by omega))]
    | false =>
      rw [cond_false]
      constructor
      · intro h; omega
      · intro h; rw [h n (by omega)] at hp; cases hp
theorem ecB_cn {nm : Nat → Int32} {b c : Nat} : ecB nm b c = none ↔ cn (fun i => !decide (nm (b * 32 + i * cwd c) = -1)) (cpb c) = cpb c := by
  unfold ecB
  rw [Option.map_eq_none_iff, ff_none, cn_all]
  constructor
  · intro h i hi
    have := h i (Nat.zero_le _) (by omega)
    simp at this ⊢
    exact this
  · intro h i _ hi
    have := h i (by omega)
    simp at this ⊢
    exact this
section MB
variable {cc : Nat → xC} {B : Nat} {a : Nat → Nat → Int32} {v : Nat → Int32}
theorem m_objectsIn (hB : B ≤ 16) {nm : Nat → Int32} (hn : ∀ w, w < 32 * B → a 2 w = nm w) {b : Nat} (hb : b < B) : Tot none kX5_objectsIn [.ref 19, .int (nI b)] (wM cc B a v) (rI (nI (oB nm b)) (wM cc B a v)) := by
  have loop : ∀ (m i : Nat), i + m = 32 → V none 95 (rI (nI (oB nm b)) (wM cc B a v)) (0, 0) 15 [(0, .ref 19), (1, .int (nI b)), (2, .int (nI (cn (fun i => !decide (nm (b * 32 + i) = -1)) i))), (3, .int (nI (b * 32 + i)))] [.int (nI (b * 32 + 32)), .int (nI (b * 32 + i))] (wM cc B a v) := by
    intro m
    induction m with
    | zero =>
      intro i hi
      have e : i = 32 := by omega
      subst e
      refine V.brT rfl rfl (nI_le (Nat.le_refl _) (by omega)) ?_
      refine V.run 20 rfl ?_
      exact V.ri rfl ⟨rfl, rfl⟩
    | succ m ih =>
      intro i hi
      have hxB : b * 32 + i < 32 * B := by omega
      have ih := ih (i + 1) (by omega)
      rw [cn] at ih
      refine V.brF rfl rfl (nI_ge (by omega) (by omega)) ?_
      refine V.run 20 rfl ?_
      refine V.ialE rfl rfl rfl (show b * 32 + i < 512 by omega) (by omega) (hn _ hxB) ?_
      refine V.run 20 rfl ?_
      by_cases hm : nm (b * 32 + i) = -1
      · rw [show (!decide (nm (b * 32 + i) = -1)) = false by simp [hm]] at ih
        refine V.brF rfl rfl (fun h => h hm) ?_
        refine V.run 20 rfl ?_
        rw [pk_mul, nI_add, nI_add, nI_add, Nat.mul_comm 32 b]
        exact ih
      · rw [show (!decide (nm (b * 32 + i) = -1)) = true by simp [hm]] at ih
        refine V.brT rfl rfl hm ?_
        refine V.run 20 rfl ?_
        rw [pk_mul, nI_add, nI_add, nI_add, Nat.mul_comm 32 b]
        exact ih
  refine eX5_objectsIn ?_
  refine V.run 20 rfl ?_
  rw [pk_mul, nI_add, Nat.mul_comm 32 b]
  exact loop 32 0 (by omega)
theorem m_emptyIn0 (hB : B ≤ 16) {b : Nat} (hb : b < B) (hf : a 0 b = -1) : Tot none kX5_emptyIn [.ref 19, .int (nI b)] (wM cc B a v) (rI (nI 0) (wM cc B a v)) := by
  refine eX5_emptyIn ?_
  refine V.run 20 rfl ?_
  refine V.ialE rfl rfl rfl (show b < 16 by omega) (by omega) hf ?_
  refine V.run 20 rfl ?_
  refine V.brF rfl rfl (fun h => h rfl) ?_
  refine V.run 20 rfl ?_
  exact V.ri rfl ⟨rfl, rfl⟩
theorem m_emptyIn (hB : B ≤ 16) {nm : Nat → Int32} (hn : ∀ w, w < 32 * B → a 2 w = nm w) {b c : Nat} (hb : b < B) (hc : c < 4) (hcl : a 0 b = nI c) : Tot none kX5_emptyIn [.ref 19, .int (nI b)] (wM cc B a v) (rI (nI (32 / cwd c) - nI (oB nm b)) (wM cc B a v)) := by
  refine eX5_emptyIn ?_
  refine V.run 20 rfl ?_
  refine V.ialE rfl rfl rfl (show b < 16 by omega) (by omega) hcl ?_
  refine V.run 20 rfl ?_
  refine V.brT rfl rfl (nI_m1 (by omega)) ?_
  refine V.run 20 rfl ?_
  refine V.ialE rfl rfl rfl (show b < 16 by omega) (by omega) hcl ?_
  refine V.cs rfl (m_cellOf hc) rfl ?_
  rintro _ _ ⟨rfl, rfl⟩
  have h1 := cwd_pos c
  have h2 := cwd_le c hc
  refine V.idiv rfl (nI_ne0 (by omega) (by omega)) ?_
  rw [pk_div (by omega) (by omega) (by omega)]
  refine V.run 20 rfl ?_
  refine V.cv rfl (m_objectsIn hB hn hb) rfl rfl ?_
  rintro _ _ ⟨rfl, rfl⟩
  refine V.run 20 rfl ?_
  exact V.ri rfl ⟨rfl, rfl⟩
theorem m_sweepBlock (hB : B ≤ 16) {K : KS} {mkd : Nat → Bool} (hm : mkM B (a 4) mkd) (hK : bkOK B mkd K) (hr : rpK B a v K) {b : Nat} (hb : b < B) :
    Tot none kX5_sweepBlock [.ref 19, .int (nI b)] (wM cc B a v) (fun o w' => o = none ∧ ∃ a' v', w' = wM cc B a' v' ∧ frM a a' v v' ∧ rpK B a' v' (sw1 mkd K b)) := by
  obtain ⟨r1, r2, r3, r4, r5⟩ := hr
  have fin : ∀ (nm wt : Nat → Int32), (∀ w, w < 32 * B → nm w = swN mkd K.1 b w) → (∀ w, w < 32 * B → wt w = swW mkd K.2.1 b w) →
      V none 97 (fun o w' => o = none ∧ ∃ a' v', w' = wM cc B a' v' ∧ frM a a' v v' ∧ rpK B a' v' (sw1 mkd K b)) (0, 0) 72 [(0, .ref 19), (1, .int (nI b))] [] (wM cc B (setA (setA (uA a 1 b (nI 0)) 2 nm) 5 wt) (uV v 3 (v 3 + nI 1))) := by
    intro nm wt h1 h2
    have hfr : ∀ z, frM a (uA (setA (setA (uA a 1 b (nI 0)) 2 nm) 5 wt) 0 b z) v (uV v 3 (v 3 + nI 1)) := fun z => ⟨fun i p1 p2 p3 p4 => by rw [uA_n p1, setA_n p4, setA_n p3, uA_n p2], fun i p => uV_n p⟩
    have hun : ∀ b', b' < B → upd (a 1) b (nI 0) b' = upd K.2.2.2.1 b 0 b' := by
      intro b' hb'
      by_cases q : b' = b
      · subst q; rw [upd_s, upd_s]; rfl
      · rw [upd_n q, upd_n q]; exact r4 b' hb'
    refine V.run 20 rfl ?_
    refine V.cv rfl (m_objectsIn hB (nm := swN mkd K.1 b) (by exact h1) hb) rfl rfl ?_
    rintro _ _ ⟨rfl, rfl⟩
    by_cases hz : oB (swN mkd K.1 b) b = 0
    · have he : blkE (swN mkd K.1 b) b = true := by
        rw [blkE_iff]
        intro w hw
        unfold oB at hz
        rw [cn_zero] at hz
        have := hz (w % 32) (by omega)
        rw [show b * 32 + w % 32 = w by omega] at this
        simpa using this
      rw [hz]
      refine V.brF rfl rfl (fun h => h i0_eq0) ?_
      refine V.run 20 rfl ?_
      refine V.iast (w' := wM cc B (uA (setA (setA (uA a 1 b (nI 0)) 2 nm) 5 wt) 0 b (-1)) (uV v 3 (v 3 + nI 1))) rfl rfl rfl (show b < 16 by omega) (by omega) rfl ?_
      refine V.rv rfl ⟨rfl, _, _, rfl, hfr _, h1, h2, fun b' hb' => ?_, hun, by show v 3 + nI 1 = _; rw [r5]; rfl⟩
      show upd (a 0) b (-1) b' = (if blkE (swN mkd K.1 b) b = true then upd K.2.2.1 b (-1) else K.2.2.1) b'
      rw [if_pos he]
      by_cases q : b' = b
      · subst q; rw [upd_s, upd_s]
      · rw [upd_n q, upd_n q]; exact r3 b' hb'
    · have he : ¬ blkE (swN mkd K.1 b) b = true := by
        intro h
        apply hz
        rw [blkE_iff] at h
        unfold oB
        rw [cn_zero]
        intro i hi
        rw [h (b * 32 + i) (by omega)]
        rfl
      have hle := oB_le (swN mkd K.1 b) b
      refine V.brT rfl rfl (nI_ne0 (by omega) (by omega)) ?_
      refine V.run 20 rfl ?_
      refine V.iald rfl rfl rfl (show b < 16 by omega) (by omega) ?_
      refine V.iast (w' := wM cc B (uA (setA (setA (uA a 1 b (nI 0)) 2 nm) 5 wt) 0 b (a 0 b)) (uV v 3 (v 3 + nI 1))) rfl rfl rfl (show b < 16 by omega) (by omega) rfl ?_
      refine V.rv rfl ⟨rfl, _, _, rfl, hfr _, h1, h2, fun b' hb' => ?_, hun, by show v 3 + nI 1 = _; rw [r5]; rfl⟩
      show upd (a 0) b (a 0 b) b' = (if blkE (swN mkd K.1 b) b = true then upd K.2.2.1 b (-1) else K.2.2.1) b'
      rw [if_neg he]
      by_cases q : b' = b
      · subst q; rw [upd_s]; exact r3 b' hb'
      · rw [upd_n q]; exact r3 b' hb'
  have loop : ∀ (m i : Nat) (nm wt : Nat → Int32), i + m = 32 → (∀ w, w < 32 * B → nm w = if w < b * 32 + i then swN mkd K.1 b w else K.1 w) → (∀ w, w < 32 * B → wt w = if w < b * 32 + i then swW mkd K.2.1 b w else K.2.1 w) →
      V none 97 (fun o w' => o = none ∧ ∃ a' v', w' = wM cc B a' v' ∧ frM a a' v v' ∧ rpK B a' v' (sw1 mkd K b)) (0, 0) 30 [(0, .ref 19), (1, .int (nI b)), (2, .int (nI (b * 32 + i)))] [.int (nI (b * 32 + 32)), .int (nI (b * 32 + i))] (wM cc B (setA (setA (uA a 1 b (nI 0)) 2 nm) 5 wt) (uV v 3 (v 3 + nI 1))) := by
    intro m
    induction m with
    | zero =>
      intro i nm wt hi h1 h2
      refine V.brT rfl rfl (nI_le (by omega) (by omega)) ?_
      refine V.lt 2 rfl (fin nm wt (fun w hw => ?_) (fun w hw => ?_))
      · rw [h1 w hw]
        by_cases q : w < b * 32 + i
        · rw [if_pos q]
        · rw [if_neg q, swN_out (Or.inl (by omega))]
      · rw [h2 w hw]
        by_cases q : w < b * 32 + i
        · rw [if_pos q]
        · rw [if_neg q, swW_out (Or.inl (by omega))]
    | succ m ih =>
      intro i nm wt hi h1 h2
      have hxB : b * 32 + i < 32 * B := by omega
      have hn : nm (b * 32 + i) = K.1 (b * 32 + i) := by rw [h1 _ hxB, if_neg (by omega)]
      have ht : wt (b * 32 + i) = K.2.1 (b * 32 + i) := by rw [h2 _ hxB, if_neg (by omega)]
      have hm' : a 4 (b * 32 + i) = _ := hm (b * 32 + i) hxB
      have keep : swN mkd K.1 b (b * 32 + i) = K.1 (b * 32 + i) → swW mkd K.2.1 b (b * 32 + i) = K.2.1 (b * 32 + i) → V none 97 (fun o w' => o = none ∧ ∃ a' v', w' = wM cc B a' v' ∧ frM a a' v v' ∧ rpK B a' v' (sw1 mkd K b)) (0, 0) 66 [(0, .ref 19), (1, .int (nI b)), (2, .int (nI (b * 32 + i)))] [] (wM cc B (setA (setA (uA a 1 b (nI 0)) 2 nm) 5 wt) (uV v 3 (v 3 + nI 1))) := by
        intro e1 e2
        refine V.run 20 rfl ?_
        rw [pk_mul, nI_add, nI_add, Nat.mul_comm 32 b]
        refine ih (i + 1) nm wt (by omega) (fun w hw => ?_) (fun w hw => ?_)
        · rw [h1 w hw]
          by_cases q : w = b * 32 + i
          · subst q; rw [if_neg (by omega), if_pos (by omega), e1]
          · simp only [show w < b * 32 + i ↔ w < b * 32 + (i + 1) by omega]
        · rw [h2 w hw]
          by_cases q : w = b * 32 + i
          · subst q; rw [if_neg (by omega), if_pos (by omega), e2]
          · simp only [show w < b * 32 + i ↔ w < b * 32 + (i + 1) by omega]
      refine V.brF rfl rfl (nI_ge (by omega) (by omega)) ?_
      refine V.run 20 rfl ?_
      refine V.ialE rfl rfl rfl (show b * 32 + i < 512 by omega) (by omega) hn ?_
      refine V.run 20 rfl ?_
      by_cases hm1 : mkd (b * 32 + i) = true
      · by_cases h0 : K.1 (b * 32 + i) = -1
        · exact absurd h0 (hK.2.2.2.2 _ hxB hm1)
        · refine V.brF rfl rfl h0 ?_
          refine V.run 20 rfl ?_
          refine V.zalE rfl rfl rfl (show b * 32 + i < 512 by omega) (by omega) (hm'.trans (if_pos hm1)) ?_
          refine V.brT rfl rfl (by decide) ?_
          exact keep (swN_out (Or.inr hm1)) (swW_out (Or.inr hm1))
      · have hm0 : mkd (b * 32 + i) = false := by simpa using hm1
        by_cases h0 : K.1 (b * 32 + i) = -1
        · refine V.brT rfl rfl h0 ?_
          refine keep ?_ ?_
          · rw [swN_in (by omega) hm0, h0]
          · rw [swW_in (by omega) hm0]
            rcases hK.2.2.2.1 _ hxB with h | h
            · exact h.symm
            · exact absurd h0 h.2
        · refine V.brF rfl rfl h0 ?_
          refine V.run 20 rfl ?_
          refine V.zalE rfl rfl rfl (show b * 32 + i < 512 by omega) (by omega) (hm'.trans (if_neg hm1)) ?_
          refine V.brF rfl rfl (fun h => h rfl) ?_
          refine V.run 20 rfl ?_
          refine V.iast (w' := wM cc B (setA (setA (uA a 1 b (nI 0)) 2 (upd nm (b * 32 + i) (-1))) 5 wt) (uV v 3 (v 3 + nI 1))) rfl rfl rfl (show b * 32 + i < 512 by omega) (by omega) rfl ?_
          refine V.run 20 rfl ?_
          refine V.zast (w' := wM cc B (setA (setA (uA a 1 b (nI 0)) 2 (upd nm (b * 32 + i) (-1))) 5 (upd wt (b * 32 + i) (nI 0))) (uV v 3 (v 3 + nI 1))) rfl rfl rfl (show b * 32 + i < 512 by omega) (by omega) (Or.inl rfl) rfl ?_
          refine V.run 20 rfl ?_
          rw [pk_mul, nI_add, nI_add, Nat.mul_comm 32 b]
          refine ih (i + 1) _ _ (by omega) (fun w hw => ?_) (fun w hw => ?_)
          · by_cases q : w = b * 32 + i
            · subst q; rw [upd_s, if_pos (by omega), swN_in (by omega) hm0]
            · rw [upd_n q, h1 w hw]
              simp only [show w < b * 32 + i ↔ w < b * 32 + (i + 1) by omega]
          · by_cases q : w = b * 32 + i
            · subst q; rw [upd_s, if_pos (by omega), swW_in (by omega) hm0]; rfl
            · rw [upd_n q, h2 w hw]
              simp only [show w < b * 32 + i ↔ w < b * 32 + (i + 1) by omega]
  refine eX5_sweepBlock ?_
  refine V.run 20 rfl ?_
  refine V.puti (w' := wM cc B a (uV v 3 (v 3 + nI 1))) rfl rfl rfl ?_
  refine V.run 20 rfl ?_
  refine V.zast (w' := wM cc B (uA a 1 b (nI 0)) (uV v 3 (v 3 + nI 1))) rfl rfl rfl (show b < 16 by omega) (by omega) (Or.inl rfl) rfl ?_
  refine V.run 20 rfl ?_
  rw [pk_mul, nI_add, Nat.mul_comm 32 b]
  refine loop 32 0 (a 2) (a 5) (by omega) (fun w hw => ?_) (fun w hw => ?_)
  · rw [r1 w hw]
    by_cases q : w < b * 32 + 0
    · rw [if_pos q, swN_out (Or.inl (by omega))]
    · rw [if_neg q]
  · rw [r2 w hw]
    by_cases q : w < b * 32 + 0
    · rw [if_pos q, swW_out (Or.inl (by omega))]
    · rw [if_neg q]
theorem m_emptyCell (hB : B ≤ 16) {K : KS} {mkd : Nat → Bool} (hK : bkOK B mkd K) (hr : rpK B a v K) {c : Nat} (hc : c < 4) : Tot none kX5_emptyCell [.ref 19, .int (nI c)] (wM cc B a v) (rI (oA (ecA K c B 0)) (wM cc B a v)) := by
  have hcp := cpb_le c hc
  have hcw := cpw c hc
  have inner : ∀ {Q : Option Value → xW → Prop} {b : Nat}, b < B → (kk : ∀ x, ecB K.1 b c = some x → Q (some (.int (nI x))) (wM cc B a v)) → (kn : ecB K.1 b c = none → V none 98 Q (0, 0) 67 [(0, .ref 19), (1, .int (nI c)), (2, .int (nI b))] [] (wM cc B a v)) → ∀ (m i : Nat), i + m = cpb c → ecB K.1 b c = (ff (fun i => decide (K.1 (b * 32 + i * cwd c) = -1)) m i).map (fun i => b * 32 + i * cwd c) →
      V none 98 Q (0, 0) 42 [(0, .ref 19), (1, .int (nI c)), (2, .int (nI b)), (3, .int (nI (b * 32 + i * cwd c)))] [.int (nI (b * 32 + 32)), .int (nI (b * 32 + i * cwd c))] (wM cc B a v) := by
    intro Q b hb kk kn m
    induction m with
    | zero =>
      intro i hi he
      have e : i = cpb c := by omega
      subst e
      rw [hcw]
      refine V.brT rfl rfl (nI_le (Nat.le_refl _) (by omega)) ?_
      exact V.lt 3 rfl (kn he)
    | succ m ih =>
      intro i hi he
      have hci := cw_in hc (show i < cpb c by omega)
      have hcp2 := cwd_pos c
      have hxB : b * 32 + i * cwd c < 32 * B := by omega
      refine V.brF rfl rfl (nI_ge (by omega) (by omega)) ?_
      refine V.run 20 rfl ?_
      refine V.ialE rfl rfl rfl (show b * 32 + i * cwd c < 512 by omega) (by omega) (hr.1 _ hxB) ?_
      refine V.run 20 rfl ?_
      unfold ff at he
      by_cases hn : K.1 (b * 32 + i * cwd c) = -1
      · rw [show decide (K.1 (b * 32 + i * cwd c) = -1) = true from decide_eq_true hn] at he
        refine V.brF rfl rfl (fun h => h hn) ?_
        refine V.run 20 rfl ?_
        exact V.ri rfl (kk _ he)
      · rw [show decide (K.1 (b * 32 + i * cwd c) = -1) = false from decide_eq_false hn] at he
        refine V.brT rfl rfl hn ?_
        refine V.run 20 rfl ?_
        refine V.cs rfl (m_cellOf hc) rfl ?_
        rintro _ _ ⟨rfl, rfl⟩
        refine V.run 20 rfl ?_
        rw [pk_mul, nI_add, nI_add, Nat.mul_comm 32 b, show b * 32 + i * cwd c + cwd c = b * 32 + (i + 1) * cwd c by rw [Nat.add_mul, Nat.one_mul, Nat.add_assoc]]
        exact ih (i + 1) (by omega) he
  have loop : ∀ (m b : Nat), b + m = B → V none 98 (rI (oA (ecA K c m b)) (wM cc B a v)) (0, 0) 7 [(0, .ref 19), (1, .int (nI c)), (2, .int (nI b))] [.int (nI B), .int (nI b)] (wM cc B a v) := by
    intro m
    induction m with
    | zero =>
      intro b hb
      refine V.brT rfl rfl (nI_le (by omega) (by omega)) ?_
      refine V.run 20 rfl ?_
      exact V.ri rfl ⟨rfl, rfl⟩
    | succ m ih =>
      intro b hbm
      have hb : b < B := by omega
      have ih := ih (b + 1) (by omega)
      refine V.brF rfl rfl (nI_ge hb (by omega)) ?_
      refine V.run 20 rfl ?_
      refine V.ialE rfl rfl rfl (show b < 16 by omega) (by omega) (hr.2.2.1 b hb) ?_
      refine V.run 20 rfl ?_
      unfold ecA
      by_cases h1 : K.2.2.1 b = nI c
      · refine V.brF rfl rfl (fun h => h h1) ?_
        refine V.run 20 rfl ?_
        by_cases h2 : K.2.2.2.1 b = 0
        · refine V.zalE rfl rfl rfl (show b < 16 by omega) (by omega) ((hr.2.2.2.1 b hb).trans h2) ?_
          refine V.brF rfl rfl (fun h => h rfl) ?_
          refine V.run 20 rfl ?_
          rw [if_pos ⟨h1, h2⟩, pk_mul, nI_add, Nat.mul_comm 32 b]
          have h := inner (b := b) hb (Q := rI (oA (match ecB K.1 b c with
            | some x => some x
            | none => ecA K c m (b + 1))) (wM cc B a v)) (fun x hx => ⟨by rw [hx]; rfl, rfl⟩) (fun hx => by
              rw [hx]
              refine V.run 20 rfl ?_
              rw [nI_add]
              exact ih) (cpb c) 0 (by omega) rfl
          rw [Nat.zero_mul, Nat.add_zero] at h
          exact h
        · have h2' : K.2.2.2.1 b = 1 := by
            rcases hK.2.1 b hb with h | h
            · exact absurd h h2
            · exact h.1
          refine V.zalE rfl rfl rfl (show b < 16 by omega) (by omega) ((hr.2.2.2.1 b hb).trans h2') ?_
          refine V.brT rfl rfl (by decide) ?_
          rw [if_neg (fun h => h2 h.2)]
          refine V.run 20 rfl ?_
          rw [nI_add]
          exact ih
      · refine V.brT rfl rfl h1 ?_
        rw [if_neg (fun h => h1 h.1)]
        refine V.run 20 rfl ?_
        rw [nI_add]
        exact ih
  refine eX5_emptyCell ?_
  refine V.run 20 rfl ?_
  exact loop B 0 (by omega)
/-- a free block is taken, if there is one -/
def tkF (K : KS) (B c : Nat) : KS := match fFree K B with
  | none => K
  | some b => opn K b c
theorem m_takeFree (hB : B ≤ 16) {K : KS} (hr : rpK B a v K) {c : Nat} (hc : c < 4) :
    Tot none kX5_takeFree [.ref 19, .int (nI c)] (wM cc B a v) (fun o w' => o = some (.int (oA ((fFree K B).map (fun b => b * 32)))) ∧ ∃ a' v', w' = wM cc B a' v' ∧ frM a a' v v' ∧ rpK B a' v' (tkF K B c)) := by
  have loop : ∀ (m b : Nat), b + m = B → fFree K B = ff (fun b => decide (K.2.2.1 b = -1)) m b → V none 99 (fun o w' => o = some (.int (oA ((fFree K B).map (fun b => b * 32)))) ∧ ∃ a' v', w' = wM cc B a' v' ∧ frM a a' v v' ∧ rpK B a' v' (tkF K B c)) (0, 0) 7 [(0, .ref 19), (1, .int (nI c)), (2, .int (nI b))] [.int (nI B), .int (nI b)] (wM cc B a v) := by
    intro m
    induction m with
    | zero =>
      intro b hb he
      refine V.brT rfl rfl (nI_le (by omega) (by omega)) ?_
      refine V.run 20 rfl ?_
      exact V.ri rfl ⟨by rw [he]; rfl, a, v, rfl, frM.rf a v, by unfold tkF; rw [he]; exact hr⟩
    | succ m ih =>
      intro b hbm he
      have hb : b < B := by omega
      refine V.brF rfl rfl (nI_ge hb (by omega)) ?_
      refine V.run 20 rfl ?_
      refine V.ialE rfl rfl rfl (show b < 16 by omega) (by omega) (hr.2.2.1 b hb) ?_
      refine V.run 20 rfl ?_
      unfold ff at he
      by_cases h1 : K.2.2.1 b = -1
      · rw [show decide (K.2.2.1 b = -1) = true from decide_eq_true h1, cond_true] at he
        refine V.brF rfl rfl (fun h => h h1) ?_
        refine V.run 20 rfl ?_
        refine V.iast (w' := wM cc B (uA a 0 b (nI c)) v) rfl rfl rfl (show b < 16 by omega) (by omega) rfl ?_
        refine V.run 20 rfl ?_
        rw [pk_mul, Nat.mul_comm 32 b]
        refine V.ri rfl ⟨by rw [he]; rfl, uA a 0 b (nI c), v, rfl, ⟨fun i p1 p2 p3 p4 => uA_n p1, fun _ _ => rfl⟩, ?_⟩
        unfold tkF
        rw [he]
        refine ⟨hr.1, hr.2.1, fun b' hb' => ?_, hr.2.2.2.1, hr.2.2.2.2⟩
        show upd (a 0) b (nI c) b' = upd K.2.2.1 b (nI c) b'
        by_cases q : b' = b
        · subst q; rw [upd_s, upd_s]
        · rw [upd_n q, upd_n q]; exact hr.2.2.1 b' hb'
      · rw [show decide (K.2.2.1 b = -1) = false from decide_eq_false h1, cond_false] at he
        refine V.brT rfl rfl h1 ?_
        refine V.run 20 rfl ?_
        rw [nI_add]
        exact ih (b + 1) (by omega) he
  refine eX5_takeFree ?_
  refine V.run 20 rfl ?_
  exact loop B 0 (by omega) rfl
end MB
end
section
section MR
variable {cc : Nat → xC} {B : Nat} {a : Nat → Nat → Int32} {v : Nat → Int32}
theorem mkM_fr {a' : Nat → Nat → Int32} {v' : Nat → Int32} {mkd : Nat → Bool} (hm : mkM B (a 4) mkd) (h : frM a a' v v') : mkM B (a' 4) mkd := by rw [h.1 4 (by omega) (by omega) (by omega) (by omega)]; exact hm
theorem ee_le {mkd : Nat → Bool} {K : KS} (hK : bkOK B mkd K) {b c : Nat} (hb : b < B) (hc : c < 4) (hcl : K.2.2.1 b = nI c) : nI (32 / cwd c) - nI (oB K.1 b) ≤ 0 ↔ ecB K.1 b c = none := by
  have h1 := cn_le (fun i => !decide (K.1 (b * 32 + i * cwd c) = -1)) (cpb c)
  have h2 := cpb_le c hc
  rw [ecB_cn, cw_32 c hc, oB_cells hK hb hc hcl, pk_sub h1]
  constructor
  · intro h
    rcases Nat.lt_or_ge (cn (fun i => !decide (K.1 (b * 32 + i * cwd c) = -1)) (cpb c)) (cpb c) with q | q
    · exact absurd h (nI_nle (by omega) (by omega))
    · omega
  · intro h
    rw [h, Nat.sub_self]
    exact Int32.le_refl _
theorem m_own (hB : B ≤ 16) {R : KS} {mkd : Nat → Bool} (hm : mkM B (a 4) mkd) {c : Nat} (hc : c < 4) {Q : Option Value → xW → Prop}
    (kk : ∀ aa vv, frM a aa v vv → rpK B aa vv R → V none 100 Q (0, 0) 90 [(0, .ref 19), (1, .int (nI c))] [] (wM cc B aa vv)) :
    ∀ (m b : Nat) (aa : Nat → Nat → Int32) (vv : Nat → Int32) (K' : KS), b + m = B → frM a aa v vv → bkOK B mkd K' → rpK B aa vv K' → R = cOwn mkd c m b K' →
    V none 100 Q (0, 0) 24 [(0, .ref 19), (1, .int (nI c)), (2, .int (-1)), (3, .int (nI 0)), (4, .int (nI b))] [.int (nI B), .int (nI b)] (wM cc B aa vv) := by
  intro m
  induction m with
  | zero =>
    intro b aa vv K' hb hf hK' hr' hR
    refine V.brT rfl rfl (nI_le (by omega) (by omega)) ?_
    exact V.lt 2 rfl (kk aa vv hf (by rw [hR]; exact hr'))
  | succ m ih =>
    intro b aa vv K' hbm hf hK' hr' hR
    have hb : b < B := by omega
    unfold cOwn at hR
    refine V.brF rfl rfl (nI_ge hb (by omega)) ?_
    refine V.run 20 rfl ?_
    refine V.brF rfl rfl (fun h => h i0_eq0) ?_
    refine V.run 20 rfl ?_
    refine V.ialE rfl rfl rfl (show b < 16 by omega) (by omega) (hr'.2.2.1 b hb) ?_
    refine V.run 20 rfl ?_
    by_cases h1 : K'.2.2.1 b = nI c
    · refine V.brF rfl rfl (fun h => h h1) ?_
      refine V.run 20 rfl ?_
      by_cases h2 : K'.2.2.2.1 b = 1
      · rw [if_pos ⟨h1, h2⟩] at hR
        refine V.zalE rfl rfl rfl (show b < 16 by omega) (by omega) ((hr'.2.2.2.1 b hb).trans h2) ?_
        refine V.brF rfl rfl (by decide) ?_
        refine V.run 20 rfl ?_
        refine V.cv rfl (m_sweepBlock hB (mkM_fr hm hf) hK' hr' hb) rfl rfl ?_
        rintro _ _ ⟨rfl, a1, v1, rfl, hf1, hr1⟩
        have hf2 := hf.tr hf1
        have hK1 := sw1_ok hK' hb
        refine V.run 20 rfl ?_
        refine V.ialE rfl rfl rfl (show b < 16 by omega) (by omega) (hr1.2.2.1 b hb) ?_
        refine V.run 20 rfl ?_
        have stop : R = sw1 mkd K' b → V none 100 Q (0, 0) 78 [(0, .ref 19), (1, .int (nI c)), (2, .int (-1)), (3, .int (nI 0)), (4, .int (nI b))] [] (wM cc B a1 v1) := by
          intro hR
          refine V.run 20 rfl ?_
          refine V.br rfl rfl (fun _ => ?_) (fun _ => ?_)
          · exact V.lt 2 rfl (kk a1 v1 hf2 (by rw [hR]; exact hr1))
          · refine V.run 20 rfl ?_
            refine V.brT rfl rfl i1_ne0 ?_
            exact V.lt 2 rfl (kk a1 v1 hf2 (by rw [hR]; exact hr1))
        by_cases h3 : (sw1 mkd K' b).2.2.1 b = -1
        · rw [if_pos (Or.inl h3)] at hR
          refine V.brT rfl rfl h3 ?_
          exact stop hR
        · refine V.brF rfl rfl h3 ?_
          refine V.run 20 rfl ?_
          have h4 : (sw1 mkd K' b).2.2.1 b = nI c := by
            have e : (sw1 mkd K' b).2.2.1 b = (if blkE (swN mkd K'.1 b) b = true then upd K'.2.2.1 b (-1) else K'.2.2.1) b := rfl
            rw [e] at h3 ⊢
            by_cases q : blkE (swN mkd K'.1 b) b = true
            · rw [if_pos q, upd_s] at h3; exact absurd rfl h3
            · rw [if_neg q]; exact h1
          refine V.cv rfl (m_emptyIn hB hr1.1 hb hc ((hr1.2.2.1 b hb).trans h4)) rfl rfl ?_
          rintro _ _ ⟨rfl, rfl⟩
          have he := ee_le hK1 hb hc h4
          by_cases h5 : ecB (sw1 mkd K' b).1 b c = none
          · rw [if_neg (by rintro (h | h); exact h3 h; exact h h5)] at hR
            refine V.brT rfl rfl (he.mpr h5) ?_
            refine V.run 20 rfl ?_
            rw [nI_add]
            exact ih (b + 1) a1 v1 _ (by omega) hf2 hK1 hr1 hR
          · rw [if_pos (Or.inr h5)] at hR
            refine V.brF rfl rfl (fun h => h5 (he.mp h)) ?_
            exact stop hR
      · have h2' : K'.2.2.2.1 b = 0 := by
          rcases hK'.2.1 b hb with h | h
          · exact h
          · exact absurd h.1 h2
        rw [if_neg (fun h => h2 h.2)] at hR
        refine V.zalE rfl rfl rfl (show b < 16 by omega) (by omega) ((hr'.2.2.2.1 b hb).trans h2') ?_
        refine V.brT rfl rfl rfl ?_
        refine V.run 20 rfl ?_
        rw [nI_add]
        exact ih (b + 1) aa vv K' (by omega) hf hK' hr' hR
    · rw [if_neg (fun h => h1 h.1)] at hR
      refine V.brT rfl rfl h1 ?_
      refine V.run 20 rfl ?_
      rw [nI_add]
      exact ih (b + 1) aa vv K' (by omega) hf hK' hr' hR
/-- there is a place: the last loop is left at once -/
theorem m_rfin {c x b : Nat} (hx : x < 2 ^ 31) {Q : Option Value → xW → Prop} {y : Int32} (hq : Q (some (.int (nI x))) (wM cc B a v)) :
    V none 100 Q (0, 0) 120 [(0, .ref 19), (1, .int (nI c)), (2, .int (nI x)), (4, .int y)] [.int (nI B), .int y] (wM cc B a v) := by
  refine V.br rfl rfl (fun _ => ?_) (fun _ => ?_)
  · refine V.run 20 rfl ?_
    exact V.ri rfl hq
  · refine V.run 20 rfl ?_
    refine V.brT rfl rfl (nI_m1 hx) ?_
    refine V.run 20 rfl ?_
    exact V.ri rfl hq
theorem sw1_free {mkd : Nat → Bool} {K : KS} {b : Nat} (hb : b < B) (h : fFree K B = none) : fFree (sw1 mkd K b) B = if (sw1 mkd K b).2.2.1 b = -1 then some b else none := by
  have h0 : ∀ b', b' < B → K.2.2.1 b' ≠ -1 := fun b' hb' e => by
    have := (ff_none.mp h) b' (Nat.zero_le _) (by omega)
    rw [decide_eq_true e] at this
    cases this
  have hne : ∀ b', b' ≠ b → (sw1 mkd K b).2.2.1 b' = K.2.2.1 b' := by
    intro b' hq
    show (if blkE (swN mkd K.1 b) b = true then upd K.2.2.1 b (-1) else K.2.2.1) b' = _
    split
    · exact upd_n hq
    · rfl
  cases he : fFree (sw1 mkd K b) B with
  | none =>
    have := (ff_none.mp he) b (Nat.zero_le _) (by omega)
    rw [if_neg (of_decide_eq_false this)]
  | some y =>
    obtain ⟨-, h2, h3, -⟩ := ff_some he
    have h3 := of_decide_eq_true h3
    have e : y = b := by
      by_cases q : y = b
      · exact q
      · exact absurd ((hne y q).symm.trans h3) (h0 y (by omega))
    subst e
    rw [if_pos h3]
theorem m_oth (hB : B ≤ 16) {mkd : Nat → Bool} (hm : mkM B (a 4) mkd) {c : Nat} (hc : c < 4) {R : KS × Option Nat} {Q : Option Value → xW → Prop}
    (kn : ∀ aa vv, frM a aa v vv → R.2 = none → rpK B aa vv R.1 → Q (some (.int (-1))) (wM cc B aa vv))
    (ks : ∀ aa vv b, frM a aa v vv → R.2 = some b → rpK B aa vv (opn R.1 b c) → Q (some (.int (nI (b * 32)))) (wM cc B aa vv)) :
    ∀ (m b : Nat) (aa : Nat → Nat → Int32) (vv : Nat → Int32) (K' : KS), b + m = B → frM a aa v vv → bkOK B mkd K' → rpK B aa vv K' → fFree K' B = none → R = cOth mkd c m b K' →
    V none 100 Q (0, 0) 120 [(0, .ref 19), (1, .int (nI c)), (2, .int (-1)), (4, .int (nI b))] [.int (nI B), .int (nI b)] (wM cc B aa vv) := by
  intro m
  induction m with
  | zero =>
    intro b aa vv K' hb hf hK' hr' hfr hR
    refine V.brT rfl rfl (nI_le (by omega) (by omega)) ?_
    refine V.run 20 rfl ?_
    exact V.ri rfl (kn aa vv hf (by rw [hR]; rfl) (by rw [hR]; exact hr'))
  | succ m ih =>
    intro b aa vv K' hbm hf hK' hr' hfr hR
    have hb : b < B := by omega
    unfold cOth at hR
    refine V.brF rfl rfl (nI_ge hb (by omega)) ?_
    refine V.run 20 rfl ?_
    refine V.brF rfl rfl (fun h => h rfl) ?_
    refine V.run 20 rfl ?_
    by_cases h2 : K'.2.2.2.1 b = 1
    · refine V.zalE rfl rfl rfl (show b < 16 by omega) (by omega) ((hr'.2.2.2.1 b hb).trans h2) ?_
      refine V.brF rfl rfl (by decide) ?_
      refine V.run 20 rfl ?_
      refine V.ialE rfl rfl rfl (show b < 16 by omega) (by omega) (hr'.2.2.1 b hb) ?_
      refine V.run 20 rfl ?_
      by_cases h1 : K'.2.2.1 b = nI c
      · rw [if_neg (fun h => h.1 h1)] at hR
        refine V.brT rfl rfl h1 ?_
        refine V.run 20 rfl ?_
        rw [nI_add]
        exact ih (b + 1) aa vv K' (by omega) hf hK' hr' hfr hR
      · rw [if_pos ⟨h1, h2⟩] at hR
        refine V.brF rfl rfl h1 ?_
        refine V.run 20 rfl ?_
        refine V.cv rfl (m_sweepBlock hB (mkM_fr hm hf) hK' hr' hb) rfl rfl ?_
        rintro _ _ ⟨rfl, a1, v1, rfl, hf1, hr1⟩
        have hf2 := hf.tr hf1
        have hK1 := sw1_ok hK' hb
        have hsf := sw1_free (mkd := mkd) hb hfr
        refine V.run 20 rfl ?_
        refine V.ialE rfl rfl rfl (show b < 16 by omega) (by omega) (hr1.2.2.1 b hb) ?_
        refine V.run 20 rfl ?_
        by_cases h3 : (sw1 mkd K' b).2.2.1 b = -1
        · rw [if_pos h3] at hR hsf
          refine V.brF rfl rfl (fun h => h h3) ?_
          refine V.run 20 rfl ?_
          refine V.cv rfl (m_takeFree hB hr1 hc) rfl rfl ?_
          rintro _ _ ⟨rfl, a2, v2, rfl, hf3, hr3⟩
          unfold tkF at hr3
          rw [hsf] at hr3 ⊢
          refine V.run 20 rfl ?_
          exact m_rfin (b := b) (x := b * 32) (by omega) (ks a2 v2 b (hf2.tr hf3) (by rw [hR]) (by rw [hR]; exact hr3))
        · rw [if_neg h3] at hR hsf
          refine V.brT rfl rfl h3 ?_
          refine V.run 20 rfl ?_
          rw [nI_add]
          exact ih (b + 1) a1 v1 _ (by omega) hf2 hK1 hr1 hsf hR
    · have h2' : K'.2.2.2.1 b = 0 := by
        rcases hK'.2.1 b hb with h | h
        · exact h
        · exact absurd h.1 h2
      rw [if_neg (fun h => h2 h.2)] at hR
      refine V.zalE rfl rfl rfl (show b < 16 by omega) (by omega) ((hr'.2.2.2.1 b hb).trans h2') ?_
      refine V.brT rfl rfl rfl ?_
      refine V.run 20 rfl ?_
      rw [nI_add]
      exact ih (b + 1) aa vv K' (by omega) hf hK' hr' hfr hR
theorem m_room (hB : B ≤ 16) {K : KS} {mkd : Nat → Bool} (hm : mkM B (a 4) mkd) (hK : bkOK B mkd K) (hr : rpK B a v K) {c : Nat} (hc : c < 4) :
    Tot none kX5_room [.ref 19, .int (nI c)] (wM cc B a v) (fun o w' => o = some (.int (oA (fCell mkd B c K).2)) ∧ ∃ a' v', w' = wM cc B a' v' ∧ frM a a' v v' ∧ rpK B a' v' (fCell mkd B c K).1) := by
  refine eX5_room ?_
  refine V.run 20 rfl ?_
  refine V.cv rfl (m_emptyCell hB hK hr hc) rfl rfl ?_
  rintro _ _ ⟨rfl, rfl⟩
  refine V.run 20 rfl ?_
  unfold fCell
  cases h1 : ecA K c B 0 with
  | some x =>
    have hx := ecA_lt hc h1
    refine V.brF rfl rfl (oA_m1 (by omega)) ?_
    refine V.run 20 rfl ?_
    exact V.ri rfl ⟨rfl, a, v, rfl, frM.rf a v, hr⟩
  | none =>
    refine V.brT rfl rfl rfl ?_
    refine V.run 20 rfl ?_
    refine m_own hB (R := cOwn mkd c B 0 K) hm hc (fun a1 v1 hf1 hr1 => ?_) B 0 a v K (by omega) (frM.rf a v) hK hr rfl
    have hK1 := cOwn_ok (c := c) B 0 K (by omega) hK
    refine V.run 20 rfl ?_
    refine V.cv rfl (m_emptyCell hB hK1 hr1 hc) rfl rfl ?_
    rintro _ _ ⟨rfl, rfl⟩
    refine V.run 20 rfl ?_
    cases h2 : ecA (cOwn mkd c B 0 K) c B 0 with
    | some x =>
      have hx := ecA_lt hc h2
      refine V.brT rfl rfl (oA_m1 (by omega)) ?_
      refine V.run 20 rfl ?_
      exact m_rfin (b := 0) (x := x) (by omega) ⟨rfl, a1, v1, rfl, hf1, hr1⟩
    | none =>
      refine V.brF rfl rfl (fun h => h rfl) ?_
      refine V.run 20 rfl ?_
      refine V.cv rfl (m_takeFree hB hr1 hc) rfl rfl ?_
      rintro _ _ ⟨rfl, a2, v2, rfl, hf2, hr2⟩
      unfold tkF at hr2
      cases h3 : fFree (cOwn mkd c B 0 K) B with
      | some b =>
        rw [h3] at hr2
        have hb := ff_some h3
        refine V.run 20 rfl ?_
        exact m_rfin (b := 0) (x := b * 32) (by omega) ⟨rfl, a2, v2, rfl, hf1.tr hf2, hr2⟩
      | none =>
        rw [h3] at hr2
        refine V.run 20 rfl ?_
        refine m_oth (a := a2) (v := v2) (R := cOth mkd c B 0 (cOwn mkd c B 0 K)) hB (mkM_fr hm (hf1.tr hf2)) hc (fun aa vv hf hn hr' => ?_) (fun aa vv b hf hn hr' => ?_) B 0 a2 v2 _ (by omega) (frM.rf a2 v2) hK1 hr2 h3 rfl
        · cases h4 : cOth mkd c B 0 (cOwn mkd c B 0 K) with
          | mk K2 ob =>
            rw [h4] at hn hr'
            cases hn
            exact ⟨rfl, aa, vv, rfl, (hf1.tr hf2).tr hf, hr'⟩
        · cases h4 : cOth mkd c B 0 (cOwn mkd c B 0 K) with
          | mk K2 ob =>
            rw [h4] at hn hr'
            cases hn
            exact ⟨rfl, aa, vv, rfl, (hf1.tr hf2).tr hf, hr'⟩
end MR
end
section
/-! THE REFERENCE holds the state -/
def RepM (B : Nat) (a : Nat → Nat → Int32) (v : Nat → Int32) (s : AS) : Prop :=
  rpK B a v (sK s) ∧ (∀ w, w < 32 * B → (sK s).1 w ≠ -1 → a 3 w = sF s w) ∧ (∀ w, w < 32 * B → a 6 w = sD s w) ∧ (∀ w, w < 32 * B → a 7 w = sV s w) ∧ (∀ i, i < 16 → a 8 i = sR s i) ∧ Ql (sQ s) (a 9) (v 4) ∧ v 1 = sM s ∧ v 2 = sN s ∧ mkM B (a 4) (sB s)
/-- an answer that is an int, and the reference's world behind it -/
abbrev rM (cc : Nat → xC) (B : Nat) (q : Int32 × AS) : Option Value → xW → Prop := fun o w' => o = some (.int q.1) ∧ ∃ a' v', w' = wM cc B a' v' ∧ RepM B a' v' q.2
section MP
variable {cc : Nat → xC} {B : Nat} {a : Nat → Nat → Int32} {v : Nat → Int32}
theorem hpM {n : Nat} {s : AS} (hI : Inv B n s) (hr : RepM B a v s) : hpOK (32 * B) (a 3) (a 6) (a 7) (safe B s) := by
  intro x hx
  obtain ⟨h1, h2, m, h3, h4, h5, h6⟩ := hI.2.1 x hx
  refine ⟨h1, h2, m, h3, (hr.2.1 x h1 hx.2.1).trans h4, h5, fun j hj => ?_⟩
  rw [hr.2.2.1 _ (by omega), hr.2.2.2.1 _ (by omega)]
  exact h6 j hj
theorem RepM.upKV {s : AS} (hr : RepM B a v s) (w : Nat) (k z : Int32) : RepM B (uA (uA a 6 w k) 7 w z) v (upKV s w k z) := by
  obtain ⟨h1, h2, h3, h4, h5, h6, h7, h8, h9⟩ := hr
  refine ⟨h1, h2, fun x hx => ?_, fun x hx => ?_, h5, h6, h7, h8, h9⟩
  · show upd (a 6) w k x = upd (sD s) w k x
    by_cases q : x = w
    · subst q; rw [upd_s, upd_s]
    · rw [upd_n q, upd_n q]; exact h3 x hx
  · show upd (a 7) w z x = upd (sV s) w z x
    by_cases q : x = w
    · subst q; rw [upd_s, upd_s]
    · rw [upd_n q, upd_n q]; exact h4 x hx
theorem RepM.upR {s : AS} (hr : RepM B a v s) (i : Nat) (z : Int32) : RepM B (uA a 8 i z) v (upR s i z) := by
  obtain ⟨h1, h2, h3, h4, h5, h6, h7, h8, h9⟩ := hr
  refine ⟨h1, h2, h3, h4, fun x hx => ?_, h6, h7, h8, h9⟩
  show upd (a 8) i z x = upd (sR s) i z x
  by_cases q : x = i
  · subst q; rw [upd_s, upd_s]
  · rw [upd_n q, upd_n q]; exact h5 x hx
theorem m_wrong (hB : B ≤ 16) {n : Nat} {s : AS} (hI : Inv B n s) (hr : RepM B a v s) (root field : Int32) : Tot none kX5_wrong [.ref 19, .int root, .int field] (wM cc B a v) (rI (fcode (flt s root field)) (wM cc B a v)) := by
  refine eX5_wrong ?_
  unfold flt
  refine V.run 20 rfl ?_
  rcases ixN_or (n := 16) (by omega) root with ⟨hbad, e2⟩ | ⟨i, hi, rfl, e2⟩
  · rw [e2]
    refine V.cs rfl (m_isRoot0 hbad) rfl ?_
    rintro _ _ ⟨rfl, rfl⟩
    refine V.brT rfl rfl i0_eq0 ?_
    refine V.run 20 rfl ?_
    refine V.ri rfl ⟨?_, rfl⟩
    cases ixN 15 field <;> rfl
  · rw [e2]
    refine V.cs rfl (m_isRoot1 hi) rfl ?_
    rintro _ _ ⟨rfl, rfl⟩
    refine V.brF rfl rfl i1_ne0 ?_
    refine V.run 20 rfl ?_
    rcases ixN_or (n := 15) (by omega) field with ⟨hbad, e⟩ | ⟨j, hj, rfl, e⟩
    · rw [e]
      refine V.cs rfl (m_in0 (h := 14) (by omega) hbad) rfl ?_
      rintro _ _ ⟨rfl, rfl⟩
      refine V.brT rfl rfl i0_eq0 ?_
      refine V.run 20 rfl ?_
      exact V.ri rfl ⟨rfl, rfl⟩
    · rw [e]
      refine V.cs rfl (m_in1 (h := 14) (by omega) (by omega)) rfl ?_
      rintro _ _ ⟨rfl, rfl⟩
      refine V.brF rfl rfl i1_ne0 ?_
      refine V.run 20 rfl ?_
      have h8 := hr.2.2.2.2.1 i hi
      rcases hI.2.2.1 i hi with h0 | ⟨x, hx, hs⟩
      · refine V.ialE rfl rfl rfl hi (by omega) (h8.trans h0) ?_
        refine V.run 20 rfl ?_
        refine V.brT rfl rfl rfl ?_
        refine V.run 20 rfl ?_
        refine V.ialE rfl rfl rfl hi (by omega) (h8.trans h0) ?_
        refine V.run 20 rfl ?_
        refine V.brF rfl rfl (fun h => h rfl) ?_
        refine V.run 20 rfl ?_
        exact V.ri rfl ⟨by dsimp only; rw [if_pos h0]; rfl, rfl⟩
      · obtain ⟨hxN, -, m, hm, hf, hN, -⟩ := hI.2.1 x hs
        refine V.ialE rfl rfl rfl hi (by omega) (h8.trans hx) ?_
        refine V.run 20 rfl ?_
        refine V.brF rfl rfl (nI_m1 (by omega)) ?_
        refine V.run 20 rfl ?_
        refine V.ialE rfl rfl rfl hi (by omega) (h8.trans hx) ?_
        refine V.ialE rfl rfl rfl (show x < 512 by omega) (by omega) ((hr.2.1 x hxN hs.2.1).trans hf) ?_
        dsimp only
        rw [hx, if_neg (nI_m1 (by omega)), nI_clamp (by omega), hf]
        refine V.br rfl rfl (fun h => ?_) (fun h => ?_)
        · refine V.run 20 rfl ?_
          refine V.ialE rfl rfl rfl hi (by omega) (h8.trans hx) ?_
          refine V.run 20 rfl ?_
          refine V.brT rfl rfl (nI_m1 (by omega)) ?_
          refine V.run 20 rfl ?_
          exact V.ri rfl ⟨by rw [if_neg (Int32.not_le.mpr h)]; rfl, rfl⟩
        · refine V.run 20 rfl ?_
          exact V.ri rfl ⟨by rw [if_pos (Int32.not_lt.mp h)]; rfl, rfl⟩
theorem m_set (hB : B ≤ 16) {n : Nat} {s : AS} (hI : Inv B n s) (hr : RepM B a v s) (root field z : Int32) : Tot none kX5_set [.ref 19, .int root, .int field, .int z] (wM cc B a v) (rM cc B (opSet s root field z)) := by
  refine eX5_set ?_
  refine V.run 20 rfl ?_
  refine V.puti (w' := wM cc B a (uV v 0 (nI 0))) rfl rfl rfl ?_
  have hr : RepM B a (uV v 0 (nI 0)) s := hr
  generalize uV v 0 (nI 0) = v at hr ⊢
  refine V.run 20 rfl ?_
  refine V.cv rfl (m_wrong hB hI hr root field) rfl rfl ?_
  rintro _ _ ⟨rfl, rfl⟩
  unfold opSet
  refine V.run 20 rfl ?_
  rcases fl_code hI root field with ⟨e, he, h23⟩ | ⟨q, hq⟩
  · rw [he]
    refine V.brT rfl rfl (by rcases h23 with rfl | rfl <;> decide) ?_
    refine V.run 20 rfl ?_
    exact V.ri rfl ⟨rfl, a, v, rfl, hr⟩
  · obtain ⟨i, m, hi, rfl, hx, rfl, hjm, hm, hf, hs, hN, hj⟩ := fl_ok hB hI hq
    rw [hq]
    refine V.brF rfl rfl (fun h => h i0_eq0) ?_
    refine V.run 20 rfl ?_
    refine V.ialE rfl rfl rfl hi (by omega) ((hr.2.2.2.2.1 i hi).trans hx) ?_
    refine V.run 20 rfl ?_
    rw [nI_add, nI_add]
    refine V.iast (w' := wM cc B (uA a 6 (q.1 + 1 + q.2) (nI 0)) v) rfl rfl rfl (show q.1 + 1 + q.2 < 512 by omega) (by omega) rfl ?_
    refine V.run 20 rfl ?_
    refine V.ialE rfl rfl rfl hi (by omega) ((hr.2.2.2.2.1 i hi).trans hx) ?_
    refine V.run 20 rfl ?_
    rw [nI_add, nI_add]
    refine V.iast (w' := wM cc B (uA (uA a 6 (q.1 + 1 + q.2) (nI 0)) 7 (q.1 + 1 + q.2) z) v) rfl rfl rfl (show q.1 + 1 + q.2 < 512 by omega) (by omega) rfl ?_
    refine V.run 20 rfl ?_
    exact V.ri rfl ⟨rfl, _, _, rfl, hr.upKV (q.1 + 1 + q.2) (nI 0) z⟩
theorem m_link (hB : B ≤ 16) {n : Nat} {s : AS} (hI : Inv B n s) (hr : RepM B a v s) (root field to wk : Int32) : Tot none kX5_link [.ref 19, .int root, .int field, .int to, .int wk] (wM cc B a v) (rM cc B (opLink s root field to wk)) := by
  refine eX5_link ?_
  refine V.run 20 rfl ?_
  refine V.puti (w' := wM cc B a (uV v 0 (nI 0))) rfl rfl rfl ?_
  have hr : RepM B a (uV v 0 (nI 0)) s := hr
  generalize uV v 0 (nI 0) = v at hr ⊢
  refine V.run 20 rfl ?_
  refine V.cv rfl (m_wrong hB hI hr root field) rfl rfl ?_
  rintro _ _ ⟨rfl, rfl⟩
  unfold opLink
  refine V.run 20 rfl ?_
  rcases ixN_or (n := 16) (by omega) to with ⟨hbad, e⟩ | ⟨t, ht, rfl, e⟩
  · rw [e]
    refine V.cs rfl (m_isRoot0 hbad) rfl ?_
    rintro _ _ ⟨rfl, rfl⟩
    refine V.brF rfl rfl (fun h => h i0_eq0) ?_
    refine V.run 20 rfl ?_
    exact V.ri rfl ⟨rfl, a, v, rfl, hr⟩
  · rw [e]
    refine V.cs rfl (m_isRoot1 ht) rfl ?_
    rintro _ _ ⟨rfl, rfl⟩
    refine V.brT rfl rfl i1_ne0 ?_
    refine V.run 20 rfl ?_
    rcases fl_code hI root field with ⟨e2, he, h23⟩ | ⟨q, hq⟩
    · rw [he]
      refine V.brF rfl rfl (by rcases h23 with rfl | rfl <;> decide) ?_
      refine V.run 20 rfl ?_
      exact V.ri rfl ⟨rfl, a, v, rfl, hr⟩
    · obtain ⟨i, m, hi, rfl, hx, rfl, hjm, hm, hf, hs, hN, hj⟩ := fl_ok hB hI hq
      rw [hq]
      refine V.brT rfl rfl i0_eq0 ?_
      refine V.run 20 rfl ?_
      refine V.ialE rfl rfl rfl ht (by omega) (hr.2.2.2.2.1 t ht) ?_
      refine V.run 20 rfl ?_
      dsimp only
      by_cases h0 : sR s t = -1
      · refine V.brF rfl rfl (fun h => h h0) ?_
        refine V.run 20 rfl ?_
        exact V.ri rfl ⟨by rw [if_pos h0], a, v, rfl, by rw [if_pos h0]; exact hr⟩
      · rw [if_neg h0]
        refine V.brT rfl rfl h0 ?_
        refine V.run 20 rfl ?_
        refine V.ialE rfl rfl rfl hi (by omega) ((hr.2.2.2.2.1 i hi).trans hx) ?_
        refine V.run 20 rfl ?_
        rw [nI_add, nI_add]
        refine V.br rfl rfl (fun h => ?_) (fun h => ?_)
        · rw [if_pos h]
          refine V.run 20 rfl ?_
          refine V.iast (w' := wM cc B (uA a 6 (q.1 + 1 + q.2) (nI 1)) v) rfl rfl rfl (show q.1 + 1 + q.2 < 512 by omega) (by omega) rfl ?_
          refine V.run 20 rfl ?_
          refine V.ialE rfl rfl rfl hi (by omega) ((hr.2.2.2.2.1 i hi).trans hx) ?_
          refine V.run 20 rfl ?_
          rw [nI_add, nI_add]
          refine V.ialE rfl rfl rfl ht (by omega) (hr.2.2.2.2.1 t ht) ?_
          refine V.iast (w' := wM cc B (uA (uA a 6 (q.1 + 1 + q.2) (nI 1)) 7 (q.1 + 1 + q.2) (sR s t)) v) rfl rfl rfl (show q.1 + 1 + q.2 < 512 by omega) (by omega) rfl ?_
          refine V.run 20 rfl ?_
          exact V.ri rfl ⟨rfl, _, _, rfl, hr.upKV (q.1 + 1 + q.2) (nI 1) (sR s t)⟩
        · rw [if_neg h]
          refine V.run 20 rfl ?_
          refine V.iast (w' := wM cc B (uA a 6 (q.1 + 1 + q.2) (nI 2)) v) rfl rfl rfl (show q.1 + 1 + q.2 < 512 by omega) (by omega) rfl ?_
          refine V.run 20 rfl ?_
          refine V.ialE rfl rfl rfl hi (by omega) ((hr.2.2.2.2.1 i hi).trans hx) ?_
          refine V.run 20 rfl ?_
          rw [nI_add, nI_add]
          refine V.ialE rfl rfl rfl ht (by omega) (hr.2.2.2.2.1 t ht) ?_
          refine V.iast (w' := wM cc B (uA (uA a 6 (q.1 + 1 + q.2) (nI 2)) 7 (q.1 + 1 + q.2) (sR s t)) v) rfl rfl rfl (show q.1 + 1 + q.2 < 512 by omega) (by omega) rfl ?_
          refine V.run 20 rfl ?_
          exact V.ri rfl ⟨rfl, _, _, rfl, hr.upKV (q.1 + 1 + q.2) (nI 2) (sR s t)⟩
theorem m_refers (hB : B ≤ 16) {n : Nat} {s : AS} (hI : Inv B n s) (hr : RepM B a v s) (root field : Int32) : Tot none kX5_refers [.ref 19, .int root, .int field] (wM cc B a v) (rM cc B (opRefers s root field, s)) := by
  refine eX5_refers ?_
  refine V.run 20 rfl ?_
  refine V.puti (w' := wM cc B a (uV v 0 (nI 0))) rfl rfl rfl ?_
  have hr : RepM B a (uV v 0 (nI 0)) s := hr
  generalize uV v 0 (nI 0) = v at hr ⊢
  refine V.run 20 rfl ?_
  refine V.cv rfl (m_wrong hB hI hr root field) rfl rfl ?_
  rintro _ _ ⟨rfl, rfl⟩
  unfold opRefers
  refine V.run 20 rfl ?_
  rcases fl_code hI root field with ⟨e, he, h23⟩ | ⟨q, hq⟩
  · rw [he]
    refine V.brF rfl rfl (by rcases h23 with rfl | rfl <;> decide) ?_
    refine V.run 20 rfl ?_
    exact V.ri rfl ⟨rfl, a, v, rfl, hr⟩
  · obtain ⟨i, m, hi, rfl, hx, rfl, hjm, hm, hf, hs, hN, hj⟩ := fl_ok hB hI hq
    rw [hq]
    refine V.brT rfl rfl i0_eq0 ?_
    refine V.run 20 rfl ?_
    refine V.ialE rfl rfl rfl hi (by omega) ((hr.2.2.2.2.1 i hi).trans hx) ?_
    refine V.run 20 rfl ?_
    rw [nI_add, nI_add]
    refine V.ialE rfl rfl rfl (show q.1 + 1 + q.2 < 512 by omega) (by omega) (hr.2.2.1 _ (by omega)) ?_
    exact V.ri rfl ⟨rfl, a, v, rfl, hr⟩
theorem m_number (hB : B ≤ 16) {n : Nat} {s : AS} (hI : Inv B n s) (hr : RepM B a v s) (root field : Int32) : Tot none kX5_number [.ref 19, .int root, .int field] (wM cc B a v) (rM cc B (opNumber s root field, s)) := by
  refine eX5_number ?_
  refine V.run 20 rfl ?_
  refine V.puti (w' := wM cc B a (uV v 0 (nI 0))) rfl rfl rfl ?_
  have hr : RepM B a (uV v 0 (nI 0)) s := hr
  generalize uV v 0 (nI 0) = v at hr ⊢
  refine V.run 20 rfl ?_
  refine V.cv rfl (m_wrong hB hI hr root field) rfl rfl ?_
  rintro _ _ ⟨rfl, rfl⟩
  unfold opNumber
  rcases fl_code hI root field with ⟨e, he, h23⟩ | ⟨q, hq⟩
  · rw [he]
    refine V.brT rfl rfl (by rcases h23 with rfl | rfl <;> decide) ?_
    refine V.run 20 rfl ?_
    exact V.ri rfl ⟨rfl, a, v, rfl, hr⟩
  · obtain ⟨i, m, hi, rfl, hx, rfl, hjm, hm, hf, hs, hN, hj⟩ := fl_ok hB hI hq
    rw [hq]
    refine V.brF rfl rfl (fun h => h i0_eq0) ?_
    refine V.run 20 rfl ?_
    refine V.ialE rfl rfl rfl hi (by omega) ((hr.2.2.2.2.1 i hi).trans hx) ?_
    refine V.run 20 rfl ?_
    rw [nI_add, nI_add]
    refine V.ialE rfl rfl rfl (show q.1 + 1 + q.2 < 512 by omega) (by omega) (hr.2.2.1 _ (by omega)) ?_
    refine V.br rfl rfl (fun h => ?_) (fun h => ?_)
    · refine V.run 20 rfl ?_
      refine V.ialE rfl rfl rfl hi (by omega) ((hr.2.2.2.2.1 i hi).trans hx) ?_
      refine V.run 20 rfl ?_
      rw [nI_add, nI_add]
      refine V.ialE rfl rfl rfl (show q.1 + 1 + q.2 < 512 by omega) (by omega) (hr.2.2.2.1 _ (by omega)) ?_
      exact V.ri rfl ⟨by dsimp only; rw [if_pos h], a, v, rfl, hr⟩
    · refine V.run 20 rfl ?_
      exact V.ri rfl ⟨by dsimp only; rw [if_neg h], a, v, rfl, hr⟩
theorem m_load (hB : B ≤ 16) {n : Nat} {s : AS} (hI : Inv B n s) (hr : RepM B a v s) (root frm field : Int32) : Tot none kX5_load [.ref 19, .int root, .int frm, .int field] (wM cc B a v) (rM cc B (opLoad s root frm field)) := by
  refine eX5_load ?_
  refine V.run 20 rfl ?_
  refine V.puti (w' := wM cc B a (uV v 0 (nI 0))) rfl rfl rfl ?_
  have hr : RepM B a (uV v 0 (nI 0)) s := hr
  generalize uV v 0 (nI 0) = v at hr ⊢
  refine V.run 20 rfl ?_
  refine V.cv rfl (m_wrong hB hI hr frm field) rfl rfl ?_
  rintro _ _ ⟨rfl, rfl⟩
  unfold opLoad
  refine V.run 20 rfl ?_
  rcases ixN_or (n := 16) (by omega) root with ⟨hbad, e⟩ | ⟨t, ht, rfl, e⟩
  · rw [e]
    refine V.cs rfl (m_isRoot0 hbad) rfl ?_
    rintro _ _ ⟨rfl, rfl⟩
    refine V.brF rfl rfl (fun h => h i0_eq0) ?_
    refine V.run 20 rfl ?_
    exact V.ri rfl ⟨rfl, a, v, rfl, hr⟩
  · rw [e]
    refine V.cs rfl (m_isRoot1 ht) rfl ?_
    rintro _ _ ⟨rfl, rfl⟩
    refine V.brT rfl rfl i1_ne0 ?_
    refine V.run 20 rfl ?_
    rcases fl_code hI frm field with ⟨e2, he, h23⟩ | ⟨q, hq⟩
    · rw [he]
      refine V.brF rfl rfl (by rcases h23 with rfl | rfl <;> decide) ?_
      refine V.run 20 rfl ?_
      exact V.ri rfl ⟨rfl, a, v, rfl, hr⟩
    · obtain ⟨i, m, hi, rfl, hx, rfl, hjm, hm, hf, hs, hN, hj⟩ := fl_ok hB hI hq
      rw [hq]
      refine V.brT rfl rfl i0_eq0 ?_
      refine V.run 20 rfl ?_
      refine V.ialE rfl rfl rfl hi (by omega) ((hr.2.2.2.2.1 i hi).trans hx) ?_
      refine V.run 20 rfl ?_
      rw [nI_add, nI_add]
      refine V.ialE rfl rfl rfl (show q.1 + 1 + q.2 < 512 by omega) (by omega) (hr.2.2.1 _ (by omega)) ?_
      dsimp only
      by_cases h0 : sD s (q.1 + 1 + q.2) = 0
      · rw [if_pos h0]
        refine V.brF rfl rfl (fun h => h h0) ?_
        refine V.run 20 rfl ?_
        exact V.ri rfl ⟨rfl, a, v, rfl, hr⟩
      · rw [if_neg h0]
        obtain ⟨y, hy, hys⟩ : ∃ y, sV s (q.1 + 1 + q.2) = nI y ∧ safe B s y := by
          obtain ⟨-, -, m', hm', hf', -, hj'⟩ := hI.2.1 q.1 hs
          have : m' = m := nI_inj (by omega) (by omega) (hf'.symm.trans hf)
          subst this
          rcases hj' q.2 hjm with h | ⟨-, h⟩
          · exact absurd h h0
          · exact h
        have hyN := hys.1
        refine V.brT rfl rfl h0 ?_
        refine V.run 20 rfl ?_
        refine V.ialE rfl rfl rfl (show q.1 + 1 + q.2 < 512 by omega) (by omega) (hr.2.2.2.1 _ (by omega)) ?_
        refine V.iast (w' := wM cc B (uA a 8 t (sV s (q.1 + 1 + q.2))) v) rfl rfl rfl ht (by omega) rfl ?_
        refine V.run 20 rfl ?_
        refine V.ialE rfl rfl rfl ht (by omega) ((show upd (a 8) t _ t = _ from upd_s).trans hy) ?_
        refine V.ialE rfl rfl rfl (show y < 512 by omega) (by omega) (hr.1.1 y hyN) ?_
        exact V.ri rfl ⟨by unfold nmO; rw [hy, if_neg (nI_m1 (by omega)), nI_clamp (by omega)], _, _, rfl, hr.upR t _⟩
theorem m_nameOf (hB : B ≤ 16) {s : AS} {z : Int32} (hz : z = -1 ∨ ∃ x, z = nI x ∧ safe B s x) (hn : ∀ w, w < 32 * B → a 2 w = (sK s).1 w) : Tot none kX5_nameOf [.ref 19, .int z] (wM cc B a v) (rI (nmO s z) (wM cc B a v)) := by
  refine eX5_nameOf ?_
  refine V.run 20 rfl ?_
  unfold nmO
  rcases hz with rfl | ⟨x, rfl, hs⟩
  · refine V.brF rfl rfl (fun h => h rfl) ?_
    refine V.run 20 rfl ?_
    exact V.ri rfl ⟨by rw [if_pos rfl], rfl⟩
  · have hx := hs.1
    refine V.brT rfl rfl (nI_m1 (by omega)) ?_
    refine V.run 20 rfl ?_
    refine V.ialE rfl rfl rfl (show x < 512 by omega) (by omega) (hn x hx) ?_
    exact V.ri rfl ⟨by rw [if_neg (nI_m1 (by omega)), nI_clamp (by omega)], rfl⟩
theorem m_copy (hB : B ≤ 16) {n : Nat} {s : AS} (hI : Inv B n s) (hr : RepM B a v s) (root frm : Int32) : Tot none kX5_copy [.ref 19, .int root, .int frm] (wM cc B a v) (rM cc B (opCopy s root frm)) := by
  refine eX5_copy ?_
  refine V.run 20 rfl ?_
  refine V.puti (w' := wM cc B a (uV v 0 (nI 0))) rfl rfl rfl ?_
  have hr : RepM B a (uV v 0 (nI 0)) s := hr
  generalize uV v 0 (nI 0) = v at hr ⊢
  refine V.run 20 rfl ?_
  unfold opCopy
  rcases ixN_or (n := 16) (by omega) root with ⟨hbad, e⟩ | ⟨i, hi, rfl, e⟩
  · rw [e]
    refine V.cs rfl (m_isRoot0 hbad) rfl ?_
    rintro _ _ ⟨rfl, rfl⟩
    refine V.brT rfl rfl i0_eq0 ?_
    refine V.run 20 rfl ?_
    exact V.ri rfl ⟨rfl, a, v, rfl, hr⟩
  · rw [e]
    refine V.cs rfl (m_isRoot1 hi) rfl ?_
    rintro _ _ ⟨rfl, rfl⟩
    refine V.brF rfl rfl i1_ne0 ?_
    refine V.run 20 rfl ?_
    rcases ixN_or (n := 16) (by omega) frm with ⟨hbad, e2⟩ | ⟨j, hj, rfl, e2⟩
    · rw [e2]
      refine V.cs rfl (m_isRoot0 hbad) rfl ?_
      rintro _ _ ⟨rfl, rfl⟩
      refine V.brF rfl rfl (fun h => h i0_eq0) ?_
      refine V.run 20 rfl ?_
      exact V.ri rfl ⟨rfl, a, v, rfl, hr⟩
    · rw [e2]
      refine V.cs rfl (m_isRoot1 hj) rfl ?_
      rintro _ _ ⟨rfl, rfl⟩
      refine V.brT rfl rfl i1_ne0 ?_
      refine V.run 20 rfl ?_
      refine V.ialE rfl rfl rfl hj (by omega) (hr.2.2.2.2.1 j hj) ?_
      refine V.iast (w' := wM cc B (uA a 8 i (sR s j)) v) rfl rfl rfl hi (by omega) rfl ?_
      refine V.run 20 rfl ?_
      refine V.ialE rfl rfl rfl hi (by omega) (show upd (a 8) i _ i = _ from upd_s) ?_
      refine V.cv rfl (m_nameOf hB (hI.2.2.1 j hj) (by exact hr.1.1)) rfl rfl ?_
      rintro _ _ ⟨rfl, rfl⟩
      exact V.ri rfl ⟨rfl, _, _, rfl, hr.upR i _⟩
theorem m_drop (hB : B ≤ 16) {n : Nat} {s : AS} (hI : Inv B n s) (hr : RepM B a v s) (root : Int32) : Tot none kX5_drop [.ref 19, .int root] (wM cc B a v) (rM cc B (opDrop s root)) := by
  refine eX5_drop ?_
  refine V.run 20 rfl ?_
  refine V.puti (w' := wM cc B a (uV v 0 (nI 0))) rfl rfl rfl ?_
  have hr : RepM B a (uV v 0 (nI 0)) s := hr
  generalize uV v 0 (nI 0) = v at hr ⊢
  refine V.run 20 rfl ?_
  unfold opDrop
  rcases ixN_or (n := 16) (by omega) root with ⟨hbad, e⟩ | ⟨i, hi, rfl, e⟩
  · rw [e]
    refine V.cs rfl (m_isRoot0 hbad) rfl ?_
    rintro _ _ ⟨rfl, rfl⟩
    refine V.brF rfl rfl (fun h => h i0_eq0) ?_
    refine V.run 20 rfl ?_
    exact V.ri rfl ⟨rfl, a, v, rfl, hr⟩
  · rw [e]
    refine V.cs rfl (m_isRoot1 hi) rfl ?_
    rintro _ _ ⟨rfl, rfl⟩
    refine V.brT rfl rfl i1_ne0 ?_
    refine V.run 20 rfl ?_
    refine V.ialE rfl rfl rfl hi (by omega) (hr.2.2.2.2.1 i hi) ?_
    refine V.run 20 rfl ?_
    refine V.br rfl rfl (fun h => ?_) (fun h => ?_)
    · refine V.run 20 rfl ?_
      refine V.iast (w' := wM cc B (uA a 8 i (-1)) v) rfl rfl rfl hi (by omega) rfl ?_
      refine V.run 20 rfl ?_
      exact V.ri rfl ⟨by dsimp only; rw [if_neg h], _, _, rfl, hr.upR i _⟩
    · refine V.run 20 rfl ?_
      refine V.iast (w' := wM cc B (uA a 8 i (-1)) v) rfl rfl rfl hi (by omega) rfl ?_
      refine V.run 20 rfl ?_
      exact V.ri rfl ⟨by dsimp only; rw [if_pos (Decidable.not_not.mp h)], _, _, rfl, hr.upR i _⟩
theorem m_watch (hB : B ≤ 16) {n : Nat} {s : AS} (hI : Inv B n s) (hr : RepM B a v s) (root on : Int32) (hon : on = 0 ∨ on = 1) : Tot none kX5_watch [.ref 19, .int root, .int on] (wM cc B a v) (rM cc B (opWatch s root on)) := by
  refine eX5_watch ?_
  refine V.run 20 rfl ?_
  refine V.puti (w' := wM cc B a (uV v 0 (nI 0))) rfl rfl rfl ?_
  have hr : RepM B a (uV v 0 (nI 0)) s := hr
  generalize uV v 0 (nI 0) = v at hr ⊢
  refine V.run 20 rfl ?_
  unfold opWatch
  rcases ixN_or (n := 16) (by omega) root with ⟨hbad, e⟩ | ⟨i, hi, rfl, e⟩
  · rw [e]
    refine V.cs rfl (m_isRoot0 hbad) rfl ?_
    rintro _ _ ⟨rfl, rfl⟩
    refine V.brF rfl rfl (fun h => h i0_eq0) ?_
    refine V.run 20 rfl ?_
    exact V.ri rfl ⟨rfl, a, v, rfl, hr⟩
  · rw [e]
    dsimp only
    refine V.cs rfl (m_isRoot1 hi) rfl ?_
    rintro _ _ ⟨rfl, rfl⟩
    refine V.brT rfl rfl i1_ne0 ?_
    refine V.run 20 rfl ?_
    have h8 := hr.2.2.2.2.1 i hi
    rcases hI.2.2.1 i hi with h0 | ⟨x, hx, hs⟩
    · rw [if_pos h0]
      refine V.ialE rfl rfl rfl hi (by omega) (h8.trans h0) ?_
      refine V.run 20 rfl ?_
      refine V.brF rfl rfl (fun h => h rfl) ?_
      refine V.run 20 rfl ?_
      exact V.ri rfl ⟨rfl, a, v, rfl, hr⟩
    · have hxN := hs.1
      have h01 := hI.2.2.2.2.1.1 x hxN
      rw [hx, if_neg (nI_m1 (by omega)), nI_clamp (by omega)]
      refine V.ialE rfl rfl rfl hi (by omega) (h8.trans hx) ?_
      refine V.run 20 rfl ?_
      refine V.brT rfl rfl (nI_m1 (by omega)) ?_
      refine V.run 20 rfl ?_
      refine V.ialE rfl rfl rfl hi (by omega) (h8.trans hx) ?_
      refine V.zalE rfl rfl rfl (show x < 512 by omega) (by omega) (hr.1.2.1 x hxN) ?_
      have fin : ∀ y : Int32, (sK s).2.1 x = y → V none 111 (rM cc B ((sK s).2.1 x, (((sK s).1, upd (sK s).2.1 x on, (sK s).2.2), s.2))) (0, 0) 47 [(0, .ref 19), (1, .int (nI i)), (2, .int on)] [.int y] (wM cc B a v) := by
        intro y hy
        refine V.run 20 rfl ?_
        refine V.ialE rfl rfl rfl hi (by omega) (h8.trans hx) ?_
        refine V.run 20 rfl ?_
        refine V.zast (w' := wM cc B (uA a 5 x on) v) rfl rfl rfl (show x < 512 by omega) (by omega) hon rfl ?_
        refine V.run 20 rfl ?_
        obtain ⟨⟨k1, k2, k3, k4, k5⟩, h2, h3, h4, h5, h6, h7, h8, h9⟩ := hr
        refine V.ri rfl ⟨by rw [hy], _, _, rfl, ⟨k1, fun w hw => ?_, k3, k4, k5⟩, h2, h3, h4, h5, h6, h7, h8, h9⟩
        show upd (a 5) x on w = upd (sK s).2.1 x on w
        by_cases q : w = x
        · subst q; rw [upd_s, upd_s]
        · rw [upd_n q, upd_n q]; exact k2 w hw
      rcases h01 with h | h
      · refine V.brT rfl rfl h ?_
        refine V.run 1 rfl ?_
        exact fin (nI 0) h
      · refine V.brF rfl rfl (by rw [h]; decide) ?_
        refine V.run 2 rfl ?_
        exact fin (nI 1) h
theorem m_next (hB : B ≤ 16) {n : Nat} {s : AS} (hI : Inv B n s) (hr : RepM B a v s) (root : Int32) : Tot none kX5_next [.ref 19, .int root] (wM cc B a v) (rM cc B (opNext s root)) := by
  refine eX5_next ?_
  refine V.run 20 rfl ?_
  refine V.puti (w' := wM cc B a (uV v 0 (nI 0))) rfl rfl rfl ?_
  have hr : RepM B a (uV v 0 (nI 0)) s := hr
  generalize uV v 0 (nI 0) = v at hr ⊢
  refine V.run 20 rfl ?_
  unfold opNext
  rcases ixN_or (n := 16) (by omega) root with ⟨hbad, e⟩ | ⟨i, hi, rfl, e⟩
  · rw [e]
    refine V.cs rfl (m_isRoot0 hbad) rfl ?_
    rintro _ _ ⟨rfl, rfl⟩
    refine V.brF rfl rfl (fun h => h i0_eq0) ?_
    refine V.run 20 rfl ?_
    exact V.ri rfl ⟨rfl, a, v, rfl, hr⟩
  · rw [e]
    refine V.cs rfl (m_isRoot1 hi) rfl ?_
    rintro _ _ ⟨rfl, rfl⟩
    refine V.brT rfl rfl i1_ne0 ?_
    refine V.run 20 rfl ?_
    have hq := hr.2.2.2.2.2.1
    have hqG := hI.2.2.2.1
    have hql := hqG.len hI.2.1
    cases hQ : sQ s with
    | nil =>
      rw [hQ] at hq
      refine V.brF rfl rfl (fun h => h (by rw [hq.1]; rfl)) ?_
      refine V.run 20 rfl ?_
      exact V.ri rfl ⟨rfl, a, v, rfl, hr⟩
    | cons x q =>
      rw [hQ] at hq hqG hql
      rw [List.length_cons] at hql
      have hxs := hqG.2 x List.mem_cons_self
      have hxN := hxs.1
      have hv4 : v 4 = nI (q.length + 1) := hq.1
      refine V.brT rfl rfl (by rw [hv4]; exact nI_ne0 (by omega) (by omega)) ?_
      refine V.run 20 rfl ?_
      refine V.ialE (j := 0) rfl rfl rfl (show 0 < 512 by omega) (by omega) (hq.2 0 x rfl) ?_
      refine V.iast (w' := wM cc B (uA a 8 i (nI x)) v) rfl rfl rfl hi (by omega) rfl ?_
      refine V.run 20 rfl ?_
      refine V.puti (w' := wM cc B (uA a 8 i (nI x)) (uV v 4 (v 4 - nI 1))) rfl rfl rfl ?_
      rw [hv4, pk_sub (by omega), Nat.add_sub_cancel]
      refine V.run 20 rfl ?_
      have loop : ∀ (m j : Nat) (f : Nat → Int32), j + m = q.length → (∀ k y, (x :: q)[k + 1]? = some y → k < j → f k = nI y) → (∀ k, j ≤ k → f k = a 9 k) →
          V none 112 (rM cc B ((sK s).1 x, (sK s, sF s, sD s, sV s, upd (sR s) i (nI x), q, sM s, sN s, sB s))) (0, 0) 53 [(0, .ref 19), (1, .int (nI i)), (2, .int (nI j))] [.int (nI q.length), .int (nI j)] (wM cc B (setA (uA a 8 i (nI x)) 9 f) (uV v 4 (nI q.length))) := by
        intro m
        induction m with
        | zero =>
          intro j f hj h1 h2
          refine V.brT rfl rfl (nI_le (by omega) (by omega)) ?_
          refine V.run 20 rfl ?_
          refine V.ialE rfl rfl rfl hi (by omega) (show upd (a 8) i _ i = _ from upd_s) ?_
          refine V.ialE rfl rfl rfl (show x < 512 by omega) (by omega) (by exact hr.1.1 x hxN) ?_
          obtain ⟨k1, k2, k3, k4, k5, k6, k7, k8, k9⟩ := hr
          refine V.ri rfl ⟨rfl, _, _, rfl, k1, k2, k3, k4, fun w hw => ?_, ⟨rfl, fun k y hk => ?_⟩, k7, k8, k9⟩
          · show upd (a 8) i (nI x) w = upd (sR s) i (nI x) w
            by_cases q : w = i
            · subst q; rw [upd_s, upd_s]
            · rw [upd_n q, upd_n q]; exact k5 w hw
          · have hk : q[k]? = some y := hk
            have := (List.getElem?_eq_some_iff.mp hk).1
            exact h1 k y hk (by omega)
        | succ m ih =>
          intro j f hj h1 h2
          obtain ⟨y, hy⟩ : ∃ y, q[j]? = some y := ⟨_, List.getElem?_eq_getElem (by omega)⟩
          refine V.brF rfl rfl (nI_ge (show j < q.length by omega) (by omega)) ?_
          refine V.run 20 rfl ?_
          rw [nI_add]
          refine V.ialE (j := j + 1) rfl rfl rfl (show j + 1 < 512 by omega) (by omega) ((h2 (j + 1) (by omega)).trans (hq.2 (j + 1) y hy)) ?_
          refine V.iast (w' := wM cc B (setA (uA a 8 i (nI x)) 9 (upd f j (nI y))) (uV v 4 (nI q.length))) rfl rfl rfl (show j < 512 by omega) (by omega) rfl ?_
          refine V.run 20 rfl ?_
          rw [nI_add]
          refine ih (j + 1) _ (by omega) (fun k z hk hkj => ?_) (fun k hk => ?_)
          · by_cases e : k = j
            · subst e
              rw [upd_s]
              rw [List.getElem?_cons_succ, hy] at hk
              cases hk; rfl
            · rw [upd_n e]; exact h1 k z hk (by omega)
          · rw [upd_n (by omega)]; exact h2 k (by omega)
      exact loop q.length 0 (a 9) (by omega) (fun k y _ h => absurd h (Nat.not_lt_zero k)) (fun k _ => rfl)
theorem m_same (hB : B ≤ 16) {n : Nat} {s : AS} (hI : Inv B n s) (hr : RepM B a v s) (one other : Int32) : Tot none kX5_same [.ref 19, .int one, .int other] (wM cc B a v) (rM cc B (opSame s one other, s)) := by
  refine eX5_same ?_
  refine V.run 20 rfl ?_
  refine V.puti (w' := wM cc B a (uV v 0 (nI 0))) rfl rfl rfl ?_
  have hr : RepM B a (uV v 0 (nI 0)) s := hr
  generalize uV v 0 (nI 0) = v at hr ⊢
  refine V.run 20 rfl ?_
  unfold opSame
  rcases ixN_or (n := 16) (by omega) one with ⟨hbad, e⟩ | ⟨i, hi, rfl, e⟩
  · rw [e]
    refine V.cs rfl (m_isRoot0 hbad) rfl ?_
    rintro _ _ ⟨rfl, rfl⟩
    refine V.brT rfl rfl i0_eq0 ?_
    refine V.run 20 rfl ?_
    exact V.ri rfl ⟨rfl, a, v, rfl, hr⟩
  · rw [e]
    refine V.cs rfl (m_isRoot1 hi) rfl ?_
    rintro _ _ ⟨rfl, rfl⟩
    refine V.brF rfl rfl i1_ne0 ?_
    refine V.run 20 rfl ?_
    rcases ixN_or (n := 16) (by omega) other with ⟨hbad, e2⟩ | ⟨j, hj, rfl, e2⟩
    · rw [e2]
      refine V.cs rfl (m_isRoot0 hbad) rfl ?_
      rintro _ _ ⟨rfl, rfl⟩
      refine V.brF rfl rfl (fun h => h i0_eq0) ?_
      refine V.run 20 rfl ?_
      exact V.ri rfl ⟨rfl, a, v, rfl, hr⟩
    · rw [e2]
      refine V.cs rfl (m_isRoot1 hj) rfl ?_
      rintro _ _ ⟨rfl, rfl⟩
      refine V.brT rfl rfl i1_ne0 ?_
      refine V.run 20 rfl ?_
      refine V.ialE rfl rfl rfl hi (by omega) (hr.2.2.2.2.1 i hi) ?_
      refine V.run 20 rfl ?_
      refine V.ialE rfl rfl rfl hj (by omega) (hr.2.2.2.2.1 j hj) ?_
      refine V.br rfl rfl (fun h => ?_) (fun h => ?_)
      · refine V.run 20 rfl ?_
        exact V.ri rfl ⟨by dsimp only; rw [if_neg h], a, v, rfl, hr⟩
      · refine V.run 20 rfl ?_
        exact V.ri rfl ⟨by dsimp only; rw [if_pos (Decidable.not_not.mp h)], a, v, rfl, hr⟩
end MP
end
section
theorem m1_lt {m : Nat} (h : m < 2 ^ 31) : (-1 : Int32) < nI m := by
  rw [Int32.lt_iff_toInt_lt, nI_toInt h, m1_toInt]
  omega
theorem sm_cn (p : Nat → Bool) : ∀ n, sm (fun w => bif p w then 1 else 0) n = cn p n
  | 0 => rfl
  | n + 1 => by unfold sm cn; rw [sm_cn p n]
theorem sm_congr {f g : Nat → Nat} : ∀ {n : Nat}, (∀ i, i < n → f i = g i) → sm f n = sm g n
  | 0, _ => rfl
  | n + 1, h => by unfold sm; rw [sm_congr (fun i hi => h i (by omega)), h n (by omega)]
theorem sm_add (f : Nat → Nat) (m : Nat) : ∀ n, sm f (m + n) = sm f m + sm (fun i => f (m + i)) n
  | 0 => rfl
  | n + 1 => by
    show sm f (m + n) + f (m + n) = sm f m + (sm (fun i => f (m + i)) n + f (m + n))
    rw [sm_add f m n, Nat.add_assoc]
theorem sm_mul (p : Nat → Bool) (d : Nat) : ∀ n, sm (fun w => bif p w then d else 0) n = cn p n * d
  | 0 => by simp [sm, cn]
  | n + 1 => by
    unfold sm cn
    rw [sm_mul p d n, Nat.add_mul]
    cases p n <;> simp
/-- what the reference's counting of objects adds for a word -/
def oT (K : KS) (p q : Bool) (w : Nat) : Nat := bif !decide (K.1 w = -1) && (!q || decide (K.2.1 w = 1)) then (bif p then cwJ K.2.2.1 (w / 32) else 1) else 0
theorem oT_00 (K : KS) (B : Nat) : sm (oT K false false) (32 * B) = oN K.1 B := by
  have : sm (oT K false false) (32 * B) = sm (fun w => bif !decide (K.1 w = -1) then 1 else 0) (32 * B) := sm_congr (fun i _ => by unfold oT; cases decide (K.1 i = -1) <;> rfl)
  rw [this, sm_cn, Nat.mul_comm]
  rfl
theorem oT_10 (K : KS) : ∀ B, sm (oT K true false) (32 * B) = oW K.1 K.2.2.1 B
  | 0 => rfl
  | B + 1 => by
    have ih := oT_10 K B
    rw [Nat.mul_add, Nat.mul_one, sm_add, ih]
    show _ = oW K.1 K.2.2.1 B + oB K.1 B * cwJ K.2.2.1 B
    congr 1
    unfold oB
    rw [← sm_mul]
    refine sm_congr (fun i hi => ?_)
    unfold oT
    rw [show (32 * B + i) / 32 = B by omega, Nat.mul_comm 32 B]
    cases decide (K.1 (B * 32 + i) = -1) <;> rfl
theorem oT_01 {K : KS} {B : Nat} (h : ∀ w, w < 32 * B → K.2.1 w = 1 → K.1 w ≠ -1 ∧ w % 2 = 0) : sm (oT K false true) (32 * B) = cn (fun k => decide (K.2.1 (2 * k) = 1)) (16 * B) := by
  have : sm (oT K false true) (32 * B) = sm (fun w => bif decide (K.2.1 w = 1) then 1 else 0) (32 * B) := sm_congr (fun i hi => by
    unfold oT
    by_cases q : K.2.1 i = 1
    · have := (h i hi q).1
      simp [q, this]
    · simp [q])
  rw [this, sm_cn, show 32 * B = 16 * B * 2 by omega, cn_step (by omega) (fun w hw hp => (h w (by omega) (of_decide_eq_true hp)).2)]
  refine cn_congr (fun i _ => ?_)
  rw [Nat.mul_comm i 2]
section MP2
variable {cc : Nat → xC} {B : Nat} {a : Nat → Nat → Int32} {v : Nat → Int32}
theorem RepM.fr {s : AS} (hr : RepM B a v s) {a' : Nat → Nat → Int32} {v' : Nat → Int32} (hf : frM a a' v v') {K' : KS} (hk : rpK B a' v' K') (hl : ∀ w, w < 32 * B → K'.1 w ≠ -1 → (sK s).1 w ≠ -1) : RepM B a' v' (K', s.2) := by
  obtain ⟨f1, f2⟩ := hf
  obtain ⟨h1, h2, h3, h4, h5, h6, h7, h8, h9⟩ := hr
  refine ⟨hk, fun w hw hn => ?_, ?_, ?_, ?_, ?_, ?_, ?_, ?_⟩
  · rw [f1 3 (by omega) (by omega) (by omega) (by omega)]; exact h2 w hw (hl w hw hn)
  · rw [f1 6 (by omega) (by omega) (by omega) (by omega)]; exact h3
  · rw [f1 7 (by omega) (by omega) (by omega) (by omega)]; exact h4
  · rw [f1 8 (by omega) (by omega) (by omega) (by omega)]; exact h5
  · rw [f1 9 (by omega) (by omega) (by omega) (by omega), f2 4 (by omega)]; exact h6
  · rw [f2 1 (by omega)]; exact h7
  · rw [f2 2 (by omega)]; exact h8
  · rw [f1 4 (by omega) (by omega) (by omega) (by omega)]; exact h9
theorem RepM.rt {n : Nat} {s : AS} (hI : Inv B n s) (hr : RepM B a v s) : rtOK (a 8) (safe B s) := fun i hi => by rw [hr.2.2.2.2.1 i hi]; exact hI.2.2.1 i hi
theorem RepM.wt {n : Nat} {s : AS} (hI : Inv B n s) (hr : RepM B a v s) : wtOK (32 * B) (a 2) (a 5) (safe B s) := by
  have h1 := hr.1
  obtain ⟨w1, w2, w3⟩ := hI.2.2.2.2.1
  refine ⟨fun w hw => by rw [h1.2.1 w hw]; exact w1 w hw, fun w hw q => w2 w hw (by rw [← h1.2.1 w hw]; exact q), fun x y hx hy q1 q2 q3 => w3 x y hx hy (by rw [← h1.2.1 x hx]; exact q1) (by rw [← h1.2.1 y hy]; exact q2) (by rw [← h1.1 x hx, ← h1.1 y hy]; exact q3)⟩
theorem RepM.ag {s : AS} (hr : RepM B a v s) : agr (32 * B) (safe B s) (a 3) (a 6) (a 7) (sF s) (sD s) (sV s) := ⟨fun x hx => hr.2.1 x hx.1 hx.2.1, hr.2.2.1, hr.2.2.2.1⟩
theorem m_markNowS (hB : B ≤ 16) {n : Nat} (hn : n ≤ 1000) {s : AS} (hI : Inv B n s) (hr : RepM B a v s) : Tot none kX5_markNow [.ref 19] (wM cc B a v) (fun o w' => o = none ∧ ∃ a' v', w' = wM cc B a' v' ∧ RepM B a' v' (mrk B s) ∧ v' 5 = nI (mL3 B (sK s).1 (sF s) (sK s).2.1 (sD s) (sV s) (sR s) (sQ s)).length) := by
  have hp := hpM hI hr
  have hrt := hr.rt hI
  have hwt := hr.wt hI
  have hag := hr.ag
  obtain ⟨h1, h2, h3, h4, h5, h6, h7, h8, h9⟩ := id hr
  obtain ⟨e1, e2, e3, e4, e5, e6⟩ := mrk_congr hB hp hag hrt h5 hI.2.2.2.1.2 h1.1 h1.2.1 hwt
  refine (m_markNow hB hp hrt hwt (fun w hw q => ?_) h6 hI.2.2.2.1).mono ?_
  · have hs := hwt.2.1 w hw q
    obtain ⟨M, hM, -, hx⟩ := hI.2.2.2.2.2.1
    obtain ⟨m, hm, hmn⟩ := hx w hw hs.2.1
    rw [h1.1 w hw, hmn]
    exact m1_lt (by omega)
  rintro o w' ⟨rfl, wt, fq, nq, f, g, nn, k, u, rfl, q0, q1, q3, q4, q5, q6⟩
  refine ⟨rfl, _, _, rfl, ⟨⟨h1.1, fun w hw => (q0 w hw).trans (e3 w hw), h1.2.2.1, fun b hb => ?_, h1.2.2.2.2⟩, h2, e5, e6, h5, ?_, h7, ?_, fun w hw => ?_⟩, ?_⟩
  · show u b = if (sK s).2.2.1 b = -1 then 0 else 1
    rw [q6 b hb, h1.2.2.1 b hb]
  · show Ql (sQ s ++ mT B (sK s).1 (sF s) (sK s).2.1 (sD s) (sV s) (sR s) (sQ s)) fq nq
    rw [← e2]; exact q1
  · show v 2 + nI 1 = sN s + nI 1
    rw [h8]
  · show k w = if decide (w ∈ mL3 B (sK s).1 (sF s) (sK s).2.1 (sD s) (sV s) (sR s) (sQ s)) = true then 1 else 0
    rw [← e4, q5 w (by omega)]
    have hl := q4.len hp
    have := q3.iff (by omega) hw
    by_cases q : w ∈ mL3 B (a 2) (a 3) (a 5) (a 6) (a 7) (a 8) (sQ s)
    · rw [if_neg (fun h => this.mp h q), decide_eq_true q, if_pos rfl]
    · rw [if_pos (this.mpr q), decide_eq_false q, if_neg (by decide)]
  · show nn = _
    rw [← e4]; exact q3.1
theorem m_mark (hB : B ≤ 16) {n : Nat} (hn : n ≤ 1000) {s : AS} (hI : Inv B n s) (hr : RepM B a v s) : Tot none kX5_mark [.ref 19] (wM cc B a v) (rM cc B (opMark B s)) := by
  refine eX5_mark ?_
  refine V.run 20 rfl ?_
  refine V.puti (w' := wM cc B a (uV v 0 (nI 0))) rfl rfl rfl ?_
  have hr : RepM B a (uV v 0 (nI 0)) s := hr
  generalize uV v 0 (nI 0) = v at hr ⊢
  refine V.run 20 rfl ?_
  refine V.cv rfl (m_markNowS hB hn hI hr) rfl rfl ?_
  rintro _ _ ⟨rfl, a', v', rfl, hr', h5⟩
  refine V.run 20 rfl ?_
  exact V.ri rfl ⟨congrArg (fun z => some (Value.int z)) h5, a', v', rfl, hr'⟩
theorem m_sweep (hB : B ≤ 16) {n : Nat} {s : AS} (hI : Inv B n s) (hr : RepM B a v s) : Tot none kX5_sweep [.ref 19] (wM cc B a v) (rM cc B (opSweep B s)) := by
  refine eX5_sweep ?_
  refine V.run 20 rfl ?_
  refine V.puti (w' := wM cc B a (uV v 0 (nI 0))) rfl rfl rfl ?_
  have hr : RepM B a (uV v 0 (nI 0)) s := hr
  generalize uV v 0 (nI 0) = v at hr ⊢
  refine V.run 20 rfl ?_
  have loop : ∀ (m b : Nat), b + m = B → ff (fun b => decide ((sK s).2.2.2.1 b = 1)) B 0 = ff (fun b => decide ((sK s).2.2.2.1 b = 1)) m b → V none 114 (rM cc B (opSweep B s)) (0, 0) 12 [(0, .ref 19), (1, .int (nI b))] [.int (nI B), .int (nI b)] (wM cc B a v) := by
    intro m
    induction m with
    | zero =>
      intro b hb he
      refine V.brT rfl rfl (nI_le (by omega) (by omega)) ?_
      refine V.run 20 rfl ?_
      unfold opSweep
      rw [he]
      exact V.ri rfl ⟨rfl, a, v, rfl, hr⟩
    | succ m ih =>
      intro b hbm he
      have hb : b < B := by omega
      refine V.brF rfl rfl (nI_ge hb (by omega)) ?_
      refine V.run 20 rfl ?_
      have he0 := he
      unfold ff at he
      by_cases h1 : (sK s).2.2.2.1 b = 1
      · rw [show decide ((sK s).2.2.2.1 b = 1) = true from decide_eq_true h1, cond_true] at he
        refine V.zalE rfl rfl rfl (show b < 16 by omega) (by omega) ((hr.1.2.2.2.1 b hb).trans h1) ?_
        refine V.brF rfl rfl (by decide) ?_
        refine V.run 20 rfl ?_
        refine V.cv rfl (m_sweepBlock hB hr.2.2.2.2.2.2.2.2 hI.1 hr.1 hb) rfl rfl ?_
        rintro _ _ ⟨rfl, a', v', rfl, hf, hk⟩
        refine V.run 20 rfl ?_
        unfold opSweep
        unfold ff
        rw [he]
        refine V.ri rfl ⟨rfl, a', v', rfl, hr.fr hf hk (fun w hw hn => ?_)⟩
        have := (sw1_le hI.1 hb h1).2.1 w hw hn
        rw [← this.1]; exact hn
      · have h0 : (sK s).2.2.2.1 b = 0 := by
          rcases hI.1.2.1 b hb with h | h
          · exact h
          · exact absurd h.1 h1
        rw [show decide ((sK s).2.2.2.1 b = 1) = false from decide_eq_false h1, cond_false] at he
        refine V.zalE rfl rfl rfl (show b < 16 by omega) (by omega) ((hr.1.2.2.2.1 b hb).trans h0) ?_
        refine V.brT rfl rfl rfl ?_
        refine V.run 20 rfl ?_
        rw [nI_add]
        exact ih (b + 1) (by omega) (he0.trans (by simp only [ff, decide_eq_false h1, cond_false]))
  exact loop B 0 (by omega) rfl
theorem m_object (hB : B ≤ 16) {n : Nat} {s : AS} (hI : Inv B n s) (hr : RepM B a v s) (root what : Int32) : Tot none kX5_object [.ref 19, .int root, .int what] (wM cc B a v) (rM cc B (opObject s root what, s)) := by
  refine eX5_object ?_
  refine V.run 20 rfl ?_
  refine V.puti (w' := wM cc B a (uV v 0 (nI 0))) rfl rfl rfl ?_
  have hr : RepM B a (uV v 0 (nI 0)) s := hr
  generalize uV v 0 (nI 0) = v at hr ⊢
  refine V.run 20 rfl ?_
  unfold opObject
  rcases ixN_or (n := 16) (by omega) root with ⟨hbad, e2⟩ | ⟨i, hi, rfl, e2⟩
  · rw [e2]
    refine V.cs rfl (m_isRoot0 hbad) rfl ?_
    rintro _ _ ⟨rfl, rfl⟩
    refine V.brT rfl rfl i0_eq0 ?_
    refine V.run 20 rfl ?_
    refine V.ri rfl ⟨?_, a, v, rfl, hr⟩
    cases ixN 6 what <;> rfl
  · rw [e2]
    refine V.cs rfl (m_isRoot1 hi) rfl ?_
    rintro _ _ ⟨rfl, rfl⟩
    refine V.brF rfl rfl i1_ne0 ?_
    refine V.run 20 rfl ?_
    rcases ixN_or (n := 6) (by omega) what with ⟨hbad, e⟩ | ⟨k, hk, rfl, e⟩
    · rw [e]
      refine V.cs rfl (m_in0 (h := 5) (by omega) hbad) rfl ?_
      rintro _ _ ⟨rfl, rfl⟩
      refine V.brF rfl rfl (fun h => h i0_eq0) ?_
      refine V.run 20 rfl ?_
      exact V.ri rfl ⟨rfl, a, v, rfl, hr⟩
    · rw [e]
      dsimp only
      refine V.cs rfl (m_in1 (h := 5) (by omega) (by omega)) rfl ?_
      rintro _ _ ⟨rfl, rfl⟩
      refine V.brT rfl rfl i1_ne0 ?_
      refine V.run 20 rfl ?_
      have h8 := hr.2.2.2.2.1 i hi
      rcases hI.2.2.1 i hi with h0 | ⟨x, hx, hs⟩
      · refine V.ialE rfl rfl rfl hi (by omega) (h8.trans h0) ?_
        refine V.run 20 rfl ?_
        refine V.brF rfl rfl (fun h => h rfl) ?_
        refine V.run 20 rfl ?_
        exact V.ri rfl ⟨by rw [if_pos h0], a, v, rfl, hr⟩
      · have hxN := hs.1
        have h01 := hI.2.2.2.2.1.1 x hxN
        rw [hx, if_neg (nI_m1 (by omega)), nI_clamp (by omega)]
        refine V.ialE rfl rfl rfl hi (by omega) (h8.trans hx) ?_
        refine V.run 20 rfl ?_
        refine V.brT rfl rfl (nI_m1 (by omega)) ?_
        refine V.run 20 rfl ?_
        rcases (show k = 0 ∨ k = 1 ∨ k = 2 ∨ k = 3 ∨ k = 4 ∨ k = 5 by omega) with rfl | rfl | rfl | rfl | rfl | rfl
        · refine V.tableIn (tgt := 76) rfl (by decide) (by decide) rfl rfl ?_
          refine V.run 20 rfl ?_
          refine V.ialE rfl rfl rfl (show x < 512 by omega) (by omega) (hr.1.1 x hxN) ?_
          exact V.ri rfl ⟨rfl, a, v, rfl, hr⟩
        · refine V.tableIn (tgt := 83) rfl (by decide) (by decide) rfl rfl ?_
          refine V.run 20 rfl ?_
          exact V.ri rfl ⟨rfl, a, v, rfl, hr⟩
        · refine V.tableIn (tgt := 85) rfl (by decide) (by decide) rfl rfl ?_
          refine V.run 20 rfl ?_
          refine V.ialE rfl rfl rfl (show x < 512 by omega) (by omega) (hr.2.1 x hxN hs.2.1) ?_
          exact V.ri rfl ⟨rfl, a, v, rfl, hr⟩
        · refine V.tableIn (tgt := 92) rfl (by decide) (by decide) rfl rfl ?_
          refine V.run 20 rfl ?_
          refine V.idiv rfl (by decide) ?_
          rw [pk_div (by omega) (by omega) (by omega)]
          refine V.ialE rfl rfl rfl (show x / 32 < 16 by omega) (by omega) (hr.1.2.2.1 (x / 32) (by omega)) ?_
          exact V.ri rfl ⟨rfl, a, v, rfl, hr⟩
        · refine V.tableIn (tgt := 102) rfl (by decide) (by decide) rfl rfl ?_
          refine V.run 20 rfl ?_
          rcases h01 with h | h
          · refine V.zalE rfl rfl rfl (show x < 512 by omega) (by omega) ((hr.1.2.1 x hxN).trans h) ?_
            refine V.brT rfl rfl rfl ?_
            refine V.run 20 rfl ?_
            exact V.ri rfl ⟨congrArg (fun z => some (Value.int z)) h.symm, a, v, rfl, hr⟩
          · refine V.zalE rfl rfl rfl (show x < 512 by omega) (by omega) ((hr.1.2.1 x hxN).trans h) ?_
            refine V.brF rfl rfl (by decide) ?_
            refine V.run 20 rfl ?_
            exact V.ri rfl ⟨congrArg (fun z => some (Value.int z)) h.symm, a, v, rfl, hr⟩
        · refine V.tableOut (tgt := 117) rfl (Or.inr (by decide)) rfl ?_
          refine V.run 20 rfl ?_
          have hmk := hr.2.2.2.2.2.2.2.2 x hxN
          by_cases q : sB s x = true
          · refine V.zalE rfl rfl rfl (show x < 512 by omega) (by omega) (hmk.trans (if_pos q)) ?_
            refine V.brF rfl rfl (by decide) ?_
            refine V.run 20 rfl ?_
            exact V.ri rfl ⟨by rw [q]; rfl, a, v, rfl, hr⟩
          · refine V.zalE rfl rfl rfl (show x < 512 by omega) (by omega) (hmk.trans (if_neg q)) ?_
            refine V.brT rfl rfl rfl ?_
            refine V.run 20 rfl ?_
            exact V.ri rfl ⟨by simp [q], a, v, rfl, hr⟩
theorem m_at (hB : B ≤ 16) (hB1 : 1 ≤ B) {n : Nat} {s : AS} (hI : Inv B n s) (hr : RepM B a v s) (word : Int32) : Tot none kX5_at [.ref 19, .int word] (wM cc B a v) (rM cc B (opAt B s word, s)) := by
  refine eX5_at ?_
  refine V.run 20 rfl ?_
  refine V.puti (w' := wM cc B a (uV v 0 (nI 0))) rfl rfl rfl ?_
  have hr : RepM B a (uV v 0 (nI 0)) s := hr
  generalize uV v 0 (nI 0) = v at hr ⊢
  refine V.run 20 rfl ?_
  rw [pk_mul, pk_sub (show 1 ≤ 32 * B by omega)]
  unfold opAt
  rcases ixN_or (n := 32 * B) (by omega) word with ⟨hbad, e⟩ | ⟨w, hw, rfl, e⟩
  · rw [e]
    refine V.cs rfl (m_in0 (h := 32 * B - 1) (by omega) (by rw [show 32 * B - 1 + 1 = 32 * B by omega]; exact hbad)) rfl ?_
    rintro _ _ ⟨rfl, rfl⟩
    refine V.brF rfl rfl (fun h => h i0_eq0) ?_
    refine V.run 20 rfl ?_
    exact V.ri rfl ⟨rfl, a, v, rfl, hr⟩
  · rw [e]
    dsimp only
    refine V.cs rfl (m_in1 (h := 32 * B - 1) (by omega) (by omega)) rfl ?_
    rintro _ _ ⟨rfl, rfl⟩
    refine V.brT rfl rfl i1_ne0 ?_
    refine V.run 20 rfl ?_
    refine V.idiv rfl (by decide) ?_
    rw [pk_div (by omega) (by omega) (by omega)]
    have hb : w / 32 < B := by omega
    rcases hI.1.1 (w / 32) hb with hf | ⟨c, hc, hcl⟩
    · rw [if_pos hf]
      refine V.ialE rfl rfl rfl (show w / 32 < 16 by omega) (by omega) ((hr.1.2.2.1 _ hb).trans hf) ?_
      refine V.run 20 rfl ?_
      refine V.brF rfl rfl (fun h => h rfl) ?_
      refine V.run 20 rfl ?_
      exact V.ri rfl ⟨rfl, a, v, rfl, hr⟩
    · have ej : cwJ (sK s).2.2.1 (w / 32) = cwd c := by unfold cwJ; rw [hcl, nI_clamp (by omega)]
      rw [if_neg (by rw [hcl]; exact nI_m1 (by omega)), ej]
      have h1 := cwd_pos c
      have h2 := cwd_le c hc
      refine V.ialE rfl rfl rfl (show w / 32 < 16 by omega) (by omega) ((hr.1.2.2.1 _ hb).trans hcl) ?_
      refine V.run 20 rfl ?_
      refine V.brT rfl rfl (nI_m1 (by omega)) ?_
      refine V.run 20 rfl ?_
      refine V.cs rfl (m_cellOf hc) rfl ?_
      rintro _ _ ⟨rfl, rfl⟩
      refine V.irem rfl (nI_ne0 (by omega) (by omega)) ?_
      rw [pk_rem (by omega) (by omega) (by omega)]
      refine V.run 20 rfl ?_
      have hmod := Nat.mod_le w (cwd c)
      rw [pk_sub hmod]
      refine V.ialE rfl rfl rfl (show w - w % cwd c < 512 by omega) (by omega) (hr.1.1 (w - w % cwd c) (by omega)) ?_
      exact V.ri rfl ⟨rfl, a, v, rfl, hr⟩
theorem m_block (hB : B ≤ 16) (hB1 : 1 ≤ B) {n : Nat} {s : AS} (hI : Inv B n s) (hr : RepM B a v s) (bb what : Int32) : Tot none kX5_block [.ref 19, .int bb, .int what] (wM cc B a v) (rM cc B (opBlock B s bb what, s)) := by
  refine eX5_block ?_
  refine V.run 20 rfl ?_
  refine V.puti (w' := wM cc B a (uV v 0 (nI 0))) rfl rfl rfl ?_
  have hr : RepM B a (uV v 0 (nI 0)) s := hr
  generalize uV v 0 (nI 0) = v at hr ⊢
  refine V.run 20 rfl ?_
  rw [pk_sub hB1]
  unfold opBlock
  rcases ixN_or (n := B) (by omega) bb with ⟨hbad, e⟩ | ⟨b, hb, rfl, e⟩
  · rw [e]
    refine V.cs rfl (m_in0 (h := B - 1) (by omega) (by rw [show B - 1 + 1 = B by omega]; exact hbad)) rfl ?_
    rintro _ _ ⟨rfl, rfl⟩
    refine V.brT rfl rfl i0_eq0 ?_
    refine V.run 20 rfl ?_
    exact V.ri rfl ⟨rfl, a, v, rfl, hr⟩
  · rw [e]
    refine V.cs rfl (m_in1 (h := B - 1) (by omega) (by omega)) rfl ?_
    rintro _ _ ⟨rfl, rfl⟩
    refine V.brF rfl rfl i1_ne0 ?_
    refine V.run 20 rfl ?_
    rcases ixN_or (n := 4) (by omega) what with ⟨hbad, e2⟩ | ⟨k, hk, rfl, e2⟩
    · rw [e2]
      refine V.cs rfl (m_in0 (h := 3) (by omega) hbad) rfl ?_
      rintro _ _ ⟨rfl, rfl⟩
      refine V.brF rfl rfl (fun h => h i0_eq0) ?_
      refine V.run 20 rfl ?_
      exact V.ri rfl ⟨rfl, a, v, rfl, hr⟩
    · rw [e2]
      dsimp only
      refine V.cs rfl (m_in1 (h := 3) (by omega) (by omega)) rfl ?_
      rintro _ _ ⟨rfl, rfl⟩
      refine V.brT rfl rfl i1_ne0 ?_
      refine V.run 20 rfl ?_
      rcases (show k = 0 ∨ k = 1 ∨ k = 2 ∨ k = 3 by omega) with rfl | rfl | rfl | rfl
      · refine V.brF rfl rfl (fun h => h i0_eq0) ?_
        refine V.run 20 rfl ?_
        refine V.ialE rfl rfl rfl (show b < 16 by omega) (by omega) (hr.1.2.2.1 b hb) ?_
        refine V.run 20 rfl ?_
        exact V.ri rfl ⟨rfl, a, v, rfl, hr⟩
      · refine V.brT rfl rfl i1_ne0 ?_
        refine V.run 20 rfl ?_
        refine V.brF rfl rfl (fun h => h rfl) ?_
        refine V.run 20 rfl ?_
        rcases hI.1.2.1 b hb with h | ⟨h, -⟩
        · refine V.zalE rfl rfl rfl (show b < 16 by omega) (by omega) ((hr.1.2.2.2.1 b hb).trans h) ?_
          refine V.brT rfl rfl rfl ?_
          refine V.run 20 rfl ?_
          exact V.ri rfl ⟨congrArg (fun z => some (Value.int z)) h.symm, a, v, rfl, hr⟩
        · refine V.zalE rfl rfl rfl (show b < 16 by omega) (by omega) ((hr.1.2.2.2.1 b hb).trans h) ?_
          refine V.brF rfl rfl (by decide) ?_
          refine V.run 20 rfl ?_
          exact V.ri rfl ⟨congrArg (fun z => some (Value.int z)) h.symm, a, v, rfl, hr⟩
      · refine V.brT rfl rfl (by decide) ?_
        refine V.run 20 rfl ?_
        refine V.brT rfl rfl (by decide) ?_
        refine V.run 20 rfl ?_
        refine V.brF rfl rfl (fun h => h rfl) ?_
        refine V.run 20 rfl ?_
        refine V.cv rfl (m_objectsIn hB hr.1.1 hb) rfl rfl ?_
        rintro _ _ ⟨rfl, rfl⟩
        refine V.run 20 rfl ?_
        exact V.ri rfl ⟨rfl, a, v, rfl, hr⟩
      · refine V.brT rfl rfl (by decide) ?_
        refine V.run 20 rfl ?_
        refine V.brT rfl rfl (by decide) ?_
        refine V.run 20 rfl ?_
        refine V.brT rfl rfl (by decide) ?_
        refine V.run 20 rfl ?_
        rcases hI.1.1 b hb with hf | ⟨c, hc, hcl⟩
        · refine V.cv rfl (m_emptyIn0 hB hb ((hr.1.2.2.1 b hb).trans hf)) rfl rfl ?_
          rintro _ _ ⟨rfl, rfl⟩
          exact V.ri rfl ⟨by rw [if_pos hf]; rfl, a, v, rfl, hr⟩
        · refine V.cv rfl (m_emptyIn hB hr.1.1 hb hc ((hr.1.2.2.1 b hb).trans hcl)) rfl rfl ?_
          rintro _ _ ⟨rfl, rfl⟩
          have ej : cwJ (sK s).2.2.1 b = cwd c := by unfold cwJ; rw [hcl, nI_clamp (by omega)]
          exact V.ri rfl ⟨by rw [if_neg (show ¬ (sK s).2.2.1 b = -1 by rw [hcl]; exact nI_m1 (by omega)), ej]; rfl, a, v, rfl, hr⟩
theorem m_blocksThat1 (hB : B ≤ 16) {K : KS} (hr : rpK B a v K) : Tot none kX5_blocksThat [.ref 19, .int (nI 1)] (wM cc B a v) (rI (nI (cn (fun b => decide (K.2.2.1 b = -1)) B)) (wM cc B a v)) := by
  have loop : ∀ (m b : Nat), b + m = B → V none 118 (rI (nI (cn (fun b => decide (K.2.2.1 b = -1)) B)) (wM cc B a v)) (0, 0) 9 [(0, .ref 19), (1, .int (nI 1)), (2, .int (nI (cn (fun b => decide (K.2.2.1 b = -1)) b))), (3, .int (nI b))] [.int (nI B), .int (nI b)] (wM cc B a v) := by
    intro m
    induction m with
    | zero =>
      intro b hb
      have e : b = B := by omega
      subst e
      refine V.brT rfl rfl (nI_le (Nat.le_refl _) (by omega)) ?_
      refine V.run 20 rfl ?_
      exact V.ri rfl ⟨rfl, rfl⟩
    | succ m ih =>
      intro b hbm
      have hb : b < B := by omega
      have ih := ih (b + 1) (by omega)
      rw [cn] at ih
      refine V.brF rfl rfl (nI_ge hb (by omega)) ?_
      refine V.run 20 rfl ?_
      refine V.brF rfl rfl i1_ne0 ?_
      refine V.run 20 rfl ?_
      refine V.ialE rfl rfl rfl (show b < 16 by omega) (by omega) (hr.2.2.1 b hb) ?_
      refine V.run 20 rfl ?_
      by_cases hf : K.2.2.1 b = -1
      · rw [show decide (K.2.2.1 b = -1) = true by simp [hf]] at ih
        refine V.brF rfl rfl (fun h => h hf) ?_
        refine V.run 20 rfl ?_
        rw [nI_add, nI_add]
        exact ih
      · rw [show decide (K.2.2.1 b = -1) = false by simp [hf]] at ih
        refine V.brT rfl rfl hf ?_
        refine V.run 20 rfl ?_
        rw [nI_add, nI_add]
        exact ih
  refine eX5_blocksThat ?_
  refine V.run 20 rfl ?_
  exact loop B 0 (by omega)
theorem m_blocksThat0 (hB : B ≤ 16) {K : KS} {mkd : Nat → Bool} (hK : bkOK B mkd K) (hr : rpK B a v K) : Tot none kX5_blocksThat [.ref 19, .int (nI 0)] (wM cc B a v) (rI (nI (cn (fun b => decide (K.2.2.2.1 b = 1)) B)) (wM cc B a v)) := by
  have loop : ∀ (m b : Nat), b + m = B → V none 118 (rI (nI (cn (fun b => decide (K.2.2.2.1 b = 1)) B)) (wM cc B a v)) (0, 0) 9 [(0, .ref 19), (1, .int (nI 0)), (2, .int (nI (cn (fun b => decide (K.2.2.2.1 b = 1)) b))), (3, .int (nI b))] [.int (nI B), .int (nI b)] (wM cc B a v) := by
    intro m
    induction m with
    | zero =>
      intro b hb
      have e : b = B := by omega
      subst e
      refine V.brT rfl rfl (nI_le (Nat.le_refl _) (by omega)) ?_
      refine V.run 20 rfl ?_
      exact V.ri rfl ⟨rfl, rfl⟩
    | succ m ih =>
      intro b hbm
      have hb : b < B := by omega
      have ih := ih (b + 1) (by omega)
      rw [cn] at ih
      refine V.brF rfl rfl (nI_ge hb (by omega)) ?_
      refine V.run 20 rfl ?_
      refine V.brT rfl rfl i0_eq0 ?_
      refine V.run 20 rfl ?_
      rcases hK.2.1 b hb with h0 | ⟨h1, -⟩
      · rw [show decide (K.2.2.2.1 b = 1) = false by rw [h0]; decide] at ih
        refine V.zalE rfl rfl rfl (show b < 16 by omega) (by omega) ((hr.2.2.2.1 b hb).trans h0) ?_
        refine V.brT rfl rfl rfl ?_
        refine V.run 20 rfl ?_
        rw [nI_add, nI_add]
        exact ih
      · rw [show decide (K.2.2.2.1 b = 1) = true by rw [h1]; decide] at ih
        refine V.zalE rfl rfl rfl (show b < 16 by omega) (by omega) ((hr.2.2.2.1 b hb).trans h1) ?_
        refine V.brF rfl rfl (by decide) ?_
        refine V.run 20 rfl ?_
        rw [nI_add, nI_add]
        exact ih
  refine eX5_blocksThat ?_
  refine V.run 20 rfl ?_
  exact loop B 0 (by omega)
theorem m_objects (hB : B ≤ 16) {K : KS} {mkd : Nat → Bool} (hK : bkOK B mkd K) (hr : rpK B a v K) (p q : Bool) : Tot none kX5_objects [.ref 19, .int (nI p.toNat), .int (nI q.toNat)] (wM cc B a v) (rI (nI (sm (oT K p q) (32 * B))) (wM cc B a v)) := by
  have loop : ∀ (m w : Nat), w + m = 32 * B → V none 119 (rI (nI (sm (oT K p q) (32 * B))) (wM cc B a v)) (0, 0) 14 [(0, .ref 19), (1, .int (nI p.toNat)), (2, .int (nI q.toNat)), (3, .int (nI (sm (oT K p q) w))), (4, .int (nI w))] [.int (nI (32 * B)), .int (nI w)] (wM cc B a v) := by
    intro m
    induction m with
    | zero =>
      intro w hw
      have e : w = 32 * B := by omega
      subst e
      refine V.brT rfl rfl (nI_le (Nat.le_refl _) (by omega)) ?_
      refine V.run 20 rfl ?_
      exact V.ri rfl ⟨rfl, rfl⟩
    | succ m ih =>
      intro w hwm
      have hw : w < 32 * B := by omega
      have ih := ih (w + 1) (by omega)
      rw [sm] at ih
      have no : oT K p q w = 0 → V none 119 (rI (nI (sm (oT K p q) (32 * B))) (wM cc B a v)) (0, 0) 46 [(0, .ref 19), (1, .int (nI p.toNat)), (2, .int (nI q.toNat)), (3, .int (nI (sm (oT K p q) w))), (4, .int (nI w))] [] (wM cc B a v) := by
        intro h
        rw [h] at ih
        refine V.run 20 rfl ?_
        refine V.brF rfl rfl (fun h => h i0_eq0) ?_
        refine V.run 20 rfl ?_
        rw [nI_add, nI_add, pk_mul]
        exact V.lt 5 rfl ih
      have yes : K.1 w ≠ -1 → oT K p q w = (bif p then cwJ K.2.2.1 (w / 32) else 1) → V none 119 (rI (nI (sm (oT K p q) (32 * B))) (wM cc B a v)) (0, 0) 42 [(0, .ref 19), (1, .int (nI p.toNat)), (2, .int (nI q.toNat)), (3, .int (nI (sm (oT K p q) w))), (4, .int (nI w))] [] (wM cc B a v) := by
        intro hne h
        rw [h] at ih
        refine V.run 20 rfl ?_
        refine V.brT rfl rfl i1_ne0 ?_
        refine V.run 20 rfl ?_
        cases p with
        | false =>
          refine V.brT rfl rfl i0_eq0 ?_
          refine V.run 20 rfl ?_
          rw [nI_add, nI_add, pk_mul]
          exact V.lt 5 rfl ih
        | true =>
          obtain ⟨c, hc, hcl, -⟩ := hK.2.2.1 w hw hne
          have ej : cwJ K.2.2.1 (w / 32) = cwd c := by unfold cwJ; rw [hcl, nI_clamp (by omega)]
          rw [cond_true, ej] at ih
          refine V.brF rfl rfl i1_ne0 ?_
          refine V.run 20 rfl ?_
          refine V.idiv rfl (by decide) ?_
          rw [pk_div (by omega) (by omega) (by omega)]
          refine V.ialE rfl rfl rfl (show w / 32 < 16 by omega) (by omega) ((hr.2.2.1 (w / 32) (by omega)).trans hcl) ?_
          refine V.cs rfl (m_cellOf hc) rfl ?_
          rintro _ _ ⟨rfl, rfl⟩
          refine V.run 20 rfl ?_
          rw [nI_add, nI_add, pk_mul]
          exact V.lt 5 rfl ih
      refine V.brF rfl rfl (nI_ge hw (by omega)) ?_
      refine V.run 20 rfl ?_
      refine V.ialE rfl rfl rfl (show w < 512 by omega) (by omega) (hr.1 w hw) ?_
      refine V.run 20 rfl ?_
      by_cases hn : K.1 w = -1
      · refine V.brT rfl rfl hn ?_
        exact no (by simp [oT, hn])
      · refine V.brF rfl rfl hn ?_
        refine V.run 20 rfl ?_
        cases q with
        | false =>
          refine V.brT rfl rfl i0_eq0 ?_
          exact yes hn (by simp [oT, hn])
        | true =>
          refine V.brF rfl rfl i1_ne0 ?_
          refine V.run 20 rfl ?_
          rcases hK.2.2.2.1 w hw with h0 | ⟨h1, -⟩
          · refine V.zalE rfl rfl rfl (show w < 512 by omega) (by omega) ((hr.2.1 w hw).trans h0) ?_
            refine V.brT rfl rfl rfl ?_
            exact no (by simp [oT, h0])
          · refine V.zalE rfl rfl rfl (show w < 512 by omega) (by omega) ((hr.2.1 w hw).trans h1) ?_
            refine V.brF rfl rfl (by decide) ?_
            exact yes hn (by simp [oT, hn, h1])
  refine eX5_objects ?_
  refine V.run 20 rfl ?_
  rw [pk_mul]
  exact loop (32 * B) 0 (by omega)
theorem m_count (hB : B ≤ 16) {n : Nat} {s : AS} (hI : Inv B n s) (hr : RepM B a v s) (what : Int32) : Tot none kX5_count [.ref 19, .int what] (wM cc B a v) (rM cc B (opCount B s what, s)) := by
  refine eX5_count ?_
  refine V.run 20 rfl ?_
  refine V.puti (w' := wM cc B a (uV v 0 (nI 0))) rfl rfl rfl ?_
  have hr : RepM B a (uV v 0 (nI 0)) s := hr
  generalize uV v 0 (nI 0) = v at hr ⊢
  refine V.run 20 rfl ?_
  have hp := hpM hI hr
  have hrt := hr.rt hI
  obtain ⟨h1, h2, h3, h4, h5, h6, h7, h8, h9⟩ := id hr
  unfold opCount
  rcases ixN_or (n := 10) (by omega) what with ⟨hbad, e⟩ | ⟨k, hk, rfl, e⟩
  · rw [e]
    refine V.tableOut (tgt := 122) rfl (by
      rcases hbad with h | h
      · left; rw [Int32.lt_iff_toInt_lt] at h; simpa using h
      · right; rw [Int32.le_iff_toInt_le, nI_toInt (by omega)] at h; omega) rfl ?_
    refine V.run 20 rfl ?_
    exact V.ri rfl ⟨rfl, a, v, rfl, hr⟩
  · rw [e]
    dsimp only
    rcases (show k = 0 ∨ k = 1 ∨ k = 2 ∨ k = 3 ∨ k = 4 ∨ k = 5 ∨ k = 6 ∨ k = 7 ∨ k = 8 ∨ k = 9 by omega) with rfl | rfl | rfl | rfl | rfl | rfl | rfl | rfl | rfl | rfl
    · refine V.tableIn (tgt := 60) rfl (by decide) (by decide) rfl rfl ?_
      refine V.run 20 rfl ?_
      refine V.cv rfl (m_objects hB hI.1 h1 false false) rfl rfl ?_
      rintro _ _ ⟨rfl, rfl⟩
      rw [oT_00]
      exact V.ri rfl ⟨rfl, a, v, rfl, hr⟩
    · refine V.tableIn (tgt := 67) rfl (by decide) (by decide) rfl rfl ?_
      refine V.run 20 rfl ?_
      refine V.cv rfl (m_objects hB hI.1 h1 true false) rfl rfl ?_
      rintro _ _ ⟨rfl, rfl⟩
      rw [oT_10]
      exact V.ri rfl ⟨rfl, a, v, rfl, hr⟩
    · refine V.tableIn (tgt := 74) rfl (by decide) (by decide) rfl rfl ?_
      refine V.run 20 rfl ?_
      exact V.ri rfl ⟨congrArg (fun z => some (Value.int z)) h7, a, v, rfl, hr⟩
    · refine V.tableIn (tgt := 79) rfl (by decide) (by decide) rfl rfl ?_
      refine V.run 20 rfl ?_
      exact V.ri rfl ⟨congrArg (fun z => some (Value.int z)) h8, a, v, rfl, hr⟩
    · refine V.tableIn (tgt := 84) rfl (by decide) (by decide) rfl rfl ?_
      refine V.run 20 rfl ?_
      exact V.ri rfl ⟨congrArg (fun z => some (Value.int z)) h1.2.2.2.2, a, v, rfl, hr⟩
    · refine V.tableIn (tgt := 89) rfl (by decide) (by decide) rfl rfl ?_
      refine V.run 20 rfl ?_
      refine V.cv rfl (m_blocksThat1 hB h1) rfl rfl ?_
      rintro _ _ ⟨rfl, rfl⟩
      exact V.ri rfl ⟨rfl, a, v, rfl, hr⟩
    · refine V.tableIn (tgt := 95) rfl (by decide) (by decide) rfl rfl ?_
      refine V.run 20 rfl ?_
      refine V.cv rfl (m_blocksThat0 hB hI.1 h1) rfl rfl ?_
      rintro _ _ ⟨rfl, rfl⟩
      exact V.ri rfl ⟨rfl, a, v, rfl, hr⟩
    · refine V.tableIn (tgt := 101) rfl (by decide) (by decide) rfl rfl ?_
      refine V.run 20 rfl ?_
      exact V.ri rfl ⟨congrArg (fun z => some (Value.int z)) h6.1, a, v, rfl, hr⟩
    · refine V.tableIn (tgt := 106) rfl (by decide) (by decide) rfl rfl ?_
      refine V.run 20 rfl ?_
      refine V.cv rfl (m_objects hB hI.1 h1 false true) rfl rfl ?_
      rintro _ _ ⟨rfl, rfl⟩
      rw [oT_01 (fun w hw q => by
        have hs := hI.2.2.2.2.1.2.1 w hw q
        exact ⟨hs.2.1, (hI.2.1 w hs).2.1⟩)]
      exact V.ri rfl ⟨rfl, a, v, rfl, hr⟩
    · obtain ⟨e1, -⟩ := mrk_congr hB hp hr.ag hrt h5 hI.2.2.2.1.2 h1.1 h1.2.1 (hr.wt hI)
      refine V.tableIn (tgt := 113) rfl (by decide) (by decide) rfl rfl ?_
      refine V.run 20 rfl ?_
      refine V.cv rfl (m_reach hB hp hrt h6 hI.2.2.2.1) rfl rfl ?_
      rintro _ _ ⟨rfl, f, g, n1, rfl, hW, -⟩
      refine V.run 20 rfl ?_
      refine V.ri rfl ⟨?_, _, _, rfl, h1, h2, h3, h4, h5, h6, h7, h8, h9⟩
      show some (Value.int n1) = some (Value.int (nI (mL1 B (sF s) (sD s) (sV s) (sR s) (sQ s)).length))
      rw [hW.1, e1]
end MP2
end
section
section MS
variable {cc : Nat → xC} {B : Nat} {a : Nat → Nat → Int32} {v : Nat → Int32}
/-- an object's fields, for the sum -/
theorem m_sumIn (hB : B ≤ 16) {G : Nat → Prop} (hp : hpOK (32 * B) (a 3) (a 6) (a 7) G) {L : List Nat} (hW : Wk (32 * B) L (a 10) (a 11) (v 5)) (hG : Wg B G L) {x k i m : Nat} (hx : G x) (hf : a 3 x = nI m) (hm : m ≤ 15) (hcl : ∀ y ∈ tgs (a 3) (a 6) (a 7) x, y ∈ L) {z : Int64} {Q : Option Value → xW → Prop}
    (kk : V none 122 Q (0, 0) 181 [(0, .ref 19), (1, .int (nI i)), (2, .long (sFl (fun j => sTm (a 6) (a 7) L (x + 1 + j)) z m)), (4, .int (nI k))] [] (wM cc B a v)) :
    ∀ (q j : Nat), j + q = m → V none 122 Q (0, 0) 102 [(0, .ref 19), (1, .int (nI i)), (2, .long (sFl (fun j => sTm (a 6) (a 7) L (x + 1 + j)) z j)), (4, .int (nI k)), (5, .int (nI x)), (6, .int (nI (x + 1 + j)))] [.int (nI x), .ref 23, .int (nI x), .int (nI (x + 1 + j))] (wM cc B a v) := by
  obtain ⟨hxN, -, m', hm', hf', hmN, hj'⟩ := hp x hx
  have e : m' = m := nI_inj (by omega) (by omega) (hf'.symm.trans hf)
  subst e
  have hlen := hG.len hp
  intro q
  induction q with
  | zero =>
    intro j hj
    have e : j = m' := by omega
    subst e
    refine V.ialE rfl rfl rfl (show x < 512 by omega) (by omega) hf ?_
    refine V.run 20 rfl ?_
    rw [nI_add]
    refine V.brT rfl rfl (nI_lt (by omega) (by omega)) ?_
    exact V.lt 4 rfl kk
  | succ q ih =>
    intro j hj
    have hjN : x + 1 + j < 32 * B := by omega
    have ih := ih (j + 1) (by omega)
    rw [sFl] at ih
    have hjm := hj' j (by omega)
    refine V.ialE rfl rfl rfl (show x < 512 by omega) (by omega) hf ?_
    refine V.run 20 rfl ?_
    rw [nI_add]
    refine V.brF rfl rfl (nI_nlt (by omega) (by omega)) ?_
    refine V.run 20 rfl ?_
    rcases hjm with h0 | ⟨h12, y, hy, hyG⟩
    · have et : sTm (a 6) (a 7) L (x + 1 + j) = lN 3 * (a 7 (x + 1 + j)).toInt64 := by unfold sTm; rw [if_pos h0]
      rw [et] at ih
      refine V.ialE rfl rfl rfl (show x + 1 + j < 512 by omega) (by omega) h0 ?_
      refine V.brF rfl rfl (fun h => h rfl) ?_
      refine V.run 20 rfl ?_
      refine V.iald rfl rfl rfl (show x + 1 + j < 512 by omega) (by omega) ?_
      refine V.run 20 rfl ?_
      rw [nI_add]
      exact ih
    · rcases h12 with h1 | h2
      · have hyN := (hp y hyG).1
        have hyL : y ∈ L := hcl y (by
          rw [tgs_tgc hf hm]
          unfold tgc
          refine List.mem_filterMap.mpr ⟨j, List.mem_range'_1.mpr ⟨by omega, by omega⟩, ?_⟩
          rw [if_pos h1, hy, nI_clamp (by omega)])
        obtain ⟨r, hr⟩ := List.getElem?_of_mem hyL
        have et : sTm (a 6) (a 7) L (x + 1 + j) = lN 3 * (nI r).toInt64 + lN 1 := by
          unfold sTm
          rw [if_neg (show ¬ a 6 (x + 1 + j) = 0 by rw [h1]; decide), if_pos h1, hy, nI_clamp (by omega), rkN_get hG.1 hr]
        rw [et] at ih
        refine V.ialE rfl rfl rfl (show x + 1 + j < 512 by omega) (by omega) h1 ?_
        refine V.brT rfl rfl (by decide) ?_
        refine V.run 20 rfl ?_
        refine V.ialE rfl rfl rfl (show x + 1 + j < 512 by omega) (by omega) h1 ?_
        refine V.run 20 rfl ?_
        refine V.brF rfl rfl (fun h => h rfl) ?_
        refine V.run 20 rfl ?_
        refine V.ialE rfl rfl rfl (show x + 1 + j < 512 by omega) (by omega) hy ?_
        refine V.ialE rfl rfl rfl (show y < 512 by omega) (by omega) (hW.2.1 r y hr).2 ?_
        refine V.run 20 rfl ?_
        rw [nI_add]
        exact ih
      · have et : sTm (a 6) (a 7) L (x + 1 + j) = lN 2 := by
          unfold sTm
          rw [if_neg (show ¬ a 6 (x + 1 + j) = 0 by rw [h2]; decide), if_neg (show ¬ a 6 (x + 1 + j) = 1 by rw [h2]; decide)]
        rw [et] at ih
        refine V.ialE rfl rfl rfl (show x + 1 + j < 512 by omega) (by omega) h2 ?_
        refine V.brT rfl rfl (by decide) ?_
        refine V.run 20 rfl ?_
        refine V.ialE rfl rfl rfl (show x + 1 + j < 512 by omega) (by omega) h2 ?_
        refine V.run 20 rfl ?_
        refine V.brT rfl rfl (by decide) ?_
        refine V.run 20 rfl ?_
        rw [nI_add]
        exact ih
theorem m_sum (hB : B ≤ 16) {n : Nat} {s : AS} (hI : Inv B n s) (hr : RepM B a v s) (root : Int32) : Tot none kX5_sum [.ref 19, .int root] (wM cc B a v) (fun o w' => o = some (.long (opSum B s root)) ∧ ∃ a' v', w' = wM cc B a' v' ∧ RepM B a' v' s) := by
  refine eX5_sum ?_
  refine V.run 20 rfl ?_
  refine V.puti (w' := wM cc B a (uV v 0 (nI 0))) rfl rfl rfl ?_
  have hr : RepM B a (uV v 0 (nI 0)) s := hr
  generalize uV v 0 (nI 0) = v at hr ⊢
  refine V.run 20 rfl ?_
  have hp := hpM hI hr
  have hag := hr.ag
  obtain ⟨h1, h2, h3, h4, h5, h6, h7, h8, h9⟩ := id hr
  unfold opSum
  rcases ixN_or (n := 16) (by omega) root with ⟨hbad, e⟩ | ⟨i, hi, rfl, e⟩
  · rw [e]
    refine V.cs rfl (m_isRoot0 hbad) rfl ?_
    rintro _ _ ⟨rfl, rfl⟩
    refine V.brF rfl rfl (fun h => h i0_eq0) ?_
    refine V.run 20 rfl ?_
    exact V.rl rfl ⟨rfl, a, v, rfl, hr⟩
  · rw [e]
    dsimp only
    refine V.cs rfl (m_isRoot1 hi) rfl ?_
    rintro _ _ ⟨rfl, rfl⟩
    refine V.brT rfl rfl i1_ne0 ?_
    refine V.run 20 rfl ?_
    refine V.ialE rfl rfl rfl hi (by omega) (h5 i hi) ?_
    refine V.run 20 rfl ?_
    rcases hI.2.2.1 i hi with h0 | ⟨x, hx, hs⟩
    · refine V.brF rfl rfl (fun h => h h0) ?_
      refine V.run 20 rfl ?_
      exact V.rl rfl ⟨by rw [if_pos h0]; rfl, a, v, rfl, hr⟩
    · have hxN := hs.1
      have hN : 32 * B < 2 ^ 31 := by omega
      have hW0 : Wg B (safe B s) [x] := ⟨by simp, fun y hy => by simp at hy; rw [hy]; exact hs⟩
      have fc := fol_closed hp hN (16 * B + 1) 0 [x] (by omega) (Nat.zero_le _) hW0 (fun k x hk => absurd hk (Nat.not_lt_zero k))
      have fg := fol_congr (fun x hx => tgs_congr hp hN hag hx) (fun x y hx hy => tgs_G hp hN hx hy) (16 * B + 1) 0 [x] hW0.2
      rw [hx, if_neg (nI_m1 (by omega)), nI_clamp (by omega), ← fg.1]
      generalize hLL : fol (tgs (a 3) (a 6) (a 7)) (16 * B + 1) 0 [x] = LL at fc fg
      rw [← sAll_congr hp hag fc.1.2 LL.length (Nat.le_refl _)]
      have hlen := fc.1.len hp
      refine V.brT rfl rfl (nI_m1 (by omega)) ?_
      refine V.run 20 rfl ?_
      refine V.cv rfl (m_begin hB) rfl rfl ?_
      rintro _ _ ⟨rfl, g0, rfl, hg0⟩
      refine V.run 20 rfl ?_
      refine V.ialE rfl rfl rfl hi (by omega) ((h5 i hi).trans hx) ?_
      refine V.cv rfl (m_meet hB (L := []) hxN (Wk.nil (fun y hy => hg0 y (by omega))) (by simp)) rfl rfl ?_
      rintro _ _ ⟨rfl, f1, g1, n1, rfl, hW1⟩
      refine V.run 20 rfl ?_
      refine V.cv rfl (m_follow hB (G := safe B s) (L := [x]) (by exact hp) (by exact hW1) hW0) rfl rfl ?_
      rintro _ _ ⟨rfl, f2, g2, n2, rfl, hW2, hG2⟩
      have hW2 : Wk (32 * B) LL f2 g2 n2 := hLL ▸ hW2
      refine V.run 20 rfl ?_
      have loop : ∀ (c k : Nat), k + c = LL.length → V none 122 (fun o w' => o = some (.long (sAll (a 3) (a 6) (a 7) LL LL.length)) ∧ ∃ a' v', w' = wM cc B a' v' ∧ RepM B a' v' s) (0, 0) 59 [(0, .ref 19), (1, .int (nI i)), (2, .long (sAll (a 3) (a 6) (a 7) LL k)), (4, .int (nI k))] [.int n2, .int (nI k)] (wM cc B (setA (setA a 10 f2) 11 g2) (uV v 5 n2)) := by
        intro c
        induction c with
        | zero =>
          intro k hk
          have ek : k = LL.length := by omega
          subst ek
          refine V.brT rfl rfl (le_eq hW2.1 (Nat.le_refl _) (by omega)) ?_
          refine V.run 20 rfl ?_
          exact V.rl rfl ⟨rfl, _, _, rfl, h1, h2, h3, h4, h5, h6, h7, h8, h9⟩
        | succ c ih =>
          intro k hk
          have ih := ih (k + 1) (by omega)
          have hkl : k < LL.length := by omega
          obtain ⟨y, hy⟩ : ∃ y, LL[k]? = some y := ⟨_, List.getElem?_eq_getElem hkl⟩
          have hyL := List.mem_of_getElem? hy
          have hyG := fc.1.2 y hyL
          obtain ⟨hyN, -, m, hm, hfm, -, -⟩ := hp y hyG
          have eg : LL.getD k 0 = y := by rw [List.getD_eq_getElem?_getD, hy]; rfl
          have es : sAll (a 3) (a 6) (a 7) LL (k + 1) = sFl (fun j => sTm (a 6) (a 7) LL (y + 1 + j)) (lN 31 * sAll (a 3) (a 6) (a 7) LL k + (nI m).toInt64) m := by rw [sAll, eg]; unfold sOb; rw [hfm, nI_clamp (by omega)]
          rw [es] at ih
          refine V.brF rfl rfl (fun h => nI_ge hkl (by omega) (hW2.1 ▸ h)) ?_
          refine V.run 20 rfl ?_
          refine V.ialE rfl rfl rfl (show k < 512 by omega) (by omega) (hW2.2.1 k y hy).1 ?_
          refine V.run 20 rfl ?_
          refine V.ialE rfl rfl rfl (show y < 512 by omega) (by omega) hfm ?_
          refine V.run 20 rfl ?_
          rw [nI_add]
          refine m_sumIn hB (G := safe B s) (L := LL) (k := k) (i := i) (x := y) (m := m) (z := lN 31 * sAll (a 3) (a 6) (a 7) LL k + (nI m).toInt64) (a := setA (setA a 10 f2) 11 g2) (v := uV v 5 n2) (by exact hp) (by exact hW2) fc.1 hyG hfm hm (by exact fc.2 y hyL) ?_ m 0 (by omega)
          refine V.run 20 rfl ?_
          rw [nI_add]
          exact ih
      exact loop LL.length 0 (by omega)
/-- the class of an object of m fields, as the reference has it -/
theorem m_cls {m : Nat} (hm : m ≤ 15) {r : Int32} {Q : Option Value → xW → Prop} (kk : V none 101 Q (0, 0) 67 [(0, .ref 19), (1, .int r), (2, .int (nI m))] [.int (nI (clsF m))] (wM cc B a v)) :
    V none 101 Q (0, 0) 38 [(0, .ref 19), (1, .int r), (2, .int (nI m))] [] (wM cc B a v) := by
  unfold clsF at kk
  refine V.run 20 rfl ?_
  by_cases h1 : m < 2
  · rw [if_pos h1] at kk
    refine V.brF rfl rfl (nI_ge h1 (by omega)) ?_
    refine V.run 2 rfl ?_
    exact kk
  · rw [if_neg h1] at kk
    refine V.brT rfl rfl (nI_le (by omega) (by omega)) ?_
    refine V.run 20 rfl ?_
    by_cases h2 : m < 4
    · rw [if_pos h2] at kk
      refine V.brF rfl rfl (nI_ge h2 (by omega)) ?_
      refine V.run 2 rfl ?_
      exact kk
    · rw [if_neg h2] at kk
      refine V.brT rfl rfl (nI_le (by omega) (by omega)) ?_
      refine V.run 20 rfl ?_
      by_cases h3 : m < 8
      · rw [if_pos h3] at kk
        refine V.brF rfl rfl (nI_ge h3 (by omega)) ?_
        refine V.run 2 rfl ?_
        exact kk
      · rw [if_neg h3] at kk
        refine V.brT rfl rfl (nI_le (by omega) (by omega)) ?_
        refine V.run 1 rfl ?_
        exact kk
/-- the fields of a new object -/
theorem m_zero {x m i : Nat} {c : Int32} (hx : x + 1 + m ≤ 512) (hm : m ≤ 15) {Q : Option Value → xW → Prop}
    (kk : V none 101 Q (0, 0) 183 [(0, .ref 19), (1, .int (nI i)), (2, .int (nI m)), (3, .int c), (4, .int (nI x))] [] (wM cc B (setA (setA a 6 (zr (a 6) x m)) 7 (zr (a 7) x m)) v)) :
    ∀ (q j : Nat), j + q = m → V none 101 Q (0, 0) 152 [(0, .ref 19), (1, .int (nI i)), (2, .int (nI m)), (3, .int c), (4, .int (nI x)), (5, .int (nI (j + 1)))] [.int (nI m), .int (nI (j + 1))] (wM cc B (setA (setA a 6 (zr (a 6) x j)) 7 (zr (a 7) x j)) v) := by
  intro q
  induction q with
  | zero =>
    intro j hj
    have e : j = m := by omega
    subst e
    refine V.brT rfl rfl (nI_lt (by omega) (by omega)) ?_
    exact V.lt 5 rfl kk
  | succ q ih =>
    intro j hj
    have ih := ih (j + 1) (by omega)
    rw [← zr_s (a 6) x j, ← zr_s (a 7) x j] at ih
    refine V.brF rfl rfl (nI_nlt (by omega) (by omega)) ?_
    refine V.run 20 rfl ?_
    rw [nI_add, show x + (j + 1) = x + 1 + j by omega]
    refine V.iast (w' := wM cc B (setA (setA a 6 (upd (zr (a 6) x j) (x + 1 + j) (nI 0))) 7 (zr (a 7) x j)) v) rfl rfl rfl (show x + 1 + j < 512 by omega) (by omega) rfl ?_
    refine V.run 20 rfl ?_
    rw [nI_add, show x + (j + 1) = x + 1 + j by omega]
    refine V.iast (w' := wM cc B (setA (setA a 6 (upd (zr (a 6) x j) (x + 1 + j) (nI 0))) 7 (upd (zr (a 7) x j) (x + 1 + j) (nI 0))) v) rfl rfl rfl (show x + 1 + j < 512 by omega) (by omega) rfl ?_
    refine V.run 20 rfl ?_
    rw [nI_add]
    exact ih
theorem m_make (hB : B ≤ 16) {n : Nat} (hn : n ≤ 1000) {s : AS} (hI : Inv B n s) (hr : RepM B a v s) (root m : Int32) : Tot none kX5_make [.ref 19, .int root, .int m] (wM cc B a v) (rM cc B (opMake B s root m)) := by
  refine eX5_make ?_
  refine V.run 20 rfl ?_
  refine V.puti (w' := wM cc B a (uV v 0 (nI 0))) rfl rfl rfl ?_
  have hr : RepM B a (uV v 0 (nI 0)) s := hr
  generalize uV v 0 (nI 0) = v at hr ⊢
  refine V.run 20 rfl ?_
  unfold opMake
  rcases ixN_or (n := 16) (by omega) root with ⟨hbad, e⟩ | ⟨i, hi, rfl, e⟩
  · rw [e]
    refine V.cs rfl (m_isRoot0 hbad) rfl ?_
    rintro _ _ ⟨rfl, rfl⟩
    refine V.brT rfl rfl i0_eq0 ?_
    refine V.run 20 rfl ?_
    exact V.ri rfl ⟨rfl, a, v, rfl, hr⟩
  · rw [e]
    refine V.cs rfl (m_isRoot1 hi) rfl ?_
    rintro _ _ ⟨rfl, rfl⟩
    refine V.brF rfl rfl i1_ne0 ?_
    refine V.run 20 rfl ?_
    rcases ixN_or (n := 16) (by omega) m with ⟨hbad, e2⟩ | ⟨m, hm, rfl, e2⟩
    · rw [e2]
      refine V.cs rfl (m_in0 (h := 15) (by omega) hbad) rfl ?_
      rintro _ _ ⟨rfl, rfl⟩
      refine V.brF rfl rfl (fun h => h i0_eq0) ?_
      refine V.run 20 rfl ?_
      exact V.ri rfl ⟨rfl, a, v, rfl, hr⟩
    · rw [e2]
      dsimp only
      obtain ⟨M, hM, hMs, -⟩ := hI.2.2.2.2.2.1
      have hcl4 := clsF_lt m
      refine V.cs rfl (m_in1 (h := 15) (by omega) (by omega)) rfl ?_
      rintro _ _ ⟨rfl, rfl⟩
      refine V.brT rfl rfl i1_ne0 ?_
      refine V.run 20 rfl ?_
      refine V.brT rfl rfl (fun h => nI_ne (show M < 2 ^ 31 by omega) (show 2000 < 2 ^ 31 by omega) (by omega) ((hr.2.2.2.2.2.2.1.trans hMs).symm.trans h)) ?_
      refine m_cls (show m ≤ 15 by omega) ?_
      refine V.run 20 rfl ?_
      -- behind finding a cell
      have fin : ∀ (a1 : Nat → Nat → Int32) (v1 : Nat → Int32), RepM B a1 v1 (rmC B (clsF m) s).1 →
          V none 101 (rM cc B (match rmC B (clsF m) s with
            | (t, none) => (-4, t)
            | (t, some x) => (sM t, ((upd (sK t).1 x (sM t), (sK t).2), upd (sF t) x (nI m), zr (sD t) x m, zr (sV t) x m, upd (sR t) i (nI x), sQ t, sM t + nI 1, sN t, sB t)))) (0, 0) 95 [(0, .ref 19), (1, .int (nI i)), (2, .int (nI m)), (3, .int (nI (clsF m))), (4, .int (oA (rmC B (clsF m) s).2))] [.int (-1), .int (oA (rmC B (clsF m) s).2)] (wM cc B a1 v1) := by
        intro a1 v1 hr1
        obtain ⟨hI1, hc1, hM1⟩ := rmC_ok hB hcl4 hI
        cases h : rmC B (clsF m) s with
        | mk t o =>
          rw [h] at hr1 hI1 hc1 hM1
          cases o with
          | none =>
            refine V.brF rfl rfl (fun h => h rfl) ?_
            refine V.run 20 rfl ?_
            exact V.ri rfl ⟨rfl, a1, v1, rfl, hr1⟩
          | some x =>
            obtain ⟨c1, c2, c3, c4, c5⟩ := hc1 x rfl
            have c1 : x < 32 * B := c1
            have c2 : (sK t).1 x = -1 := c2
            have hI1 : Inv B n t := hI1
            have hfit := clsF_fit m (by omega)
            obtain ⟨ci, hci, hxe⟩ := cell_of hcl4 c5
            have hin := cw_in hcl4 hci
            have hxm : x + 1 + m ≤ 32 * B := by omega
            have hwx : (sK t).2.1 x = 0 := by
              rcases hI1.1.2.2.2.1 x c1 with q | q
              · exact q
              · exact absurd c2 q.2
            have hmx : sB t x = false := by
              cases hq : sB t x with
              | false => rfl
              | true => exact absurd c2 (hI1.1.2.2.2.2 x c1 hq)
            obtain ⟨h1, h2, h3, h4, h5, h6, h7, h8, h9⟩ := hr1
            have h7 : v1 1 = sM t := h7
            refine V.brT rfl rfl (oA_m1 (by omega)) ?_
            refine V.run 20 rfl ?_
            refine V.iast (j := x) (w' := wM cc B (uA a1 2 x (v1 1)) v1) rfl rfl rfl (show x < 512 by omega) (by omega) rfl ?_
            refine V.run 20 rfl ?_
            refine V.puti (w' := wM cc B (uA a1 2 x (v1 1)) (uV v1 1 (v1 1 + nI 1))) rfl rfl rfl ?_
            refine V.run 20 rfl ?_
            refine V.iast (j := x) (w' := wM cc B (uA (uA a1 2 x (v1 1)) 3 x (nI m)) (uV v1 1 (v1 1 + nI 1))) rfl rfl rfl (show x < 512 by omega) (by omega) rfl ?_
            refine V.run 20 rfl ?_
            refine V.zast (j := x) (w' := wM cc B (uA (uA (uA a1 2 x (v1 1)) 3 x (nI m)) 4 x (nI 0)) (uV v1 1 (v1 1 + nI 1))) rfl rfl rfl (show x < 512 by omega) (by omega) (Or.inl rfl) rfl ?_
            refine V.run 20 rfl ?_
            refine V.zast (j := x) (w' := wM cc B (uA (uA (uA (uA a1 2 x (v1 1)) 3 x (nI m)) 4 x (nI 0)) 5 x (nI 0)) (uV v1 1 (v1 1 + nI 1))) rfl rfl rfl (show x < 512 by omega) (by omega) (Or.inl rfl) rfl ?_
            refine V.run 20 rfl ?_
            have hz := m_zero (cc := cc) (B := B) (x := x) (m := m) (i := i) (c := nI (clsF m)) (a := uA (uA (uA (uA a1 2 x (v1 1)) 3 x (nI m)) 4 x (nI 0)) 5 x (nI 0)) (v := uV v1 1 (v1 1 + nI 1)) (by omega) (by omega) (Q := rM cc B (sM t, ((upd (sK t).1 x (sM t), (sK t).2), upd (sF t) x (nI m), zr (sD t) x m, zr (sV t) x m, upd (sR t) i (nI x), sQ t, sM t + nI 1, sN t, sB t))) (by
              refine V.run 20 rfl ?_
              refine V.iast (j := i) (w' := wM cc B (uA (setA (setA (uA (uA (uA (uA a1 2 x (v1 1)) 3 x (nI m)) 4 x (nI 0)) 5 x (nI 0)) 6 (zr (a1 6) x m)) 7 (zr (a1 7) x m)) 8 i (nI x)) (uV v1 1 (v1 1 + nI 1))) rfl rfl rfl hi (by omega) rfl ?_
              refine V.run 20 rfl ?_
              refine V.ialE (j := x) rfl rfl rfl (show x < 512 by omega) (by omega) ((show upd (a1 2) x (v1 1) x = v1 1 from upd_s).trans h7) ?_
              refine V.ri rfl ⟨rfl, _, _, rfl, ⟨fun w hw => ?_, fun w hw => ?_, h1.2.2.1, h1.2.2.2.1, h1.2.2.2.2⟩, fun w hw hn => ?_, fun w hw => ?_, fun w hw => ?_, fun j hj => ?_, h6, ?_, h8, fun w hw => ?_⟩
              · show upd (a1 2) x (v1 1) w = upd (sK t).1 x (sM t) w
                by_cases q : w = x
                · rw [q, upd_s, upd_s, h7]
                · rw [upd_n q, upd_n q]; exact h1.1 w hw
              · show upd (a1 5) x (nI 0) w = (sK t).2.1 w
                by_cases q : w = x
                · rw [q, upd_s, hwx]; rfl
                · rw [upd_n q]; exact h1.2.1 w hw
              · show upd (a1 3) x (nI m) w = upd (sF t) x (nI m) w
                by_cases q : w = x
                · rw [q, upd_s, upd_s]
                · have hn : upd (sK t).1 x (sM t) w ≠ -1 := hn
                  rw [upd_n q] at hn
                  rw [upd_n q, upd_n q]; exact h2 w hw hn
              · show zr (a1 6) x m w = zr (sD t) x m w
                unfold zr; rw [h3 w hw]
              · show zr (a1 7) x m w = zr (sV t) x m w
                unfold zr; rw [h4 w hw]
              · show upd (a1 8) i (nI x) j = upd (sR t) i (nI x) j
                by_cases q : j = i
                · rw [q, upd_s, upd_s]
                · rw [upd_n q, upd_n q]; exact h5 j hj
              · show v1 1 + nI 1 = sM t + nI 1
                rw [h7]
              · show upd (a1 4) x (nI 0) w = if sB t w = true then 1 else 0
                by_cases q : w = x
                · rw [q, upd_s, hmx]; rfl
                · rw [upd_n q]; exact h9 w hw) m 0 (by omega)
            rw [zr_0, zr_0] at hz
            exact hz
      refine V.cv rfl (m_room hB hr.2.2.2.2.2.2.2.2 hI.1 hr.1 hcl4) rfl rfl ?_
      rintro _ _ ⟨rfl, a1, v1, rfl, hf1, hk1⟩
      obtain ⟨l1, c1⟩ := fCell_le (B := B) hcl4 hI.1
      have hr1 := hr.fr hf1 hk1 (fun w hw hne => by rw [← (l1.2.1 w hw hne).1]; exact hne)
      have hI1 := hI.le l1
      refine V.run 20 rfl ?_
      have key : rmC B (clsF m) s = match fCell (sB s) B (clsF m) (sK s) with
        | (K, some x) => ((K, s.2), some x)
        | (K, none) => (((fCell (sB (mrk B (K, s.2))) B (clsF m) (sK (mrk B (K, s.2)))).1, (mrk B (K, s.2)).2), (fCell (sB (mrk B (K, s.2))) B (clsF m) (sK (mrk B (K, s.2)))).2) := rfl
      cases h : fCell (sB s) B (clsF m) (sK s) with
      | mk K o =>
        rw [h] at hr1 hI1 c1 key
        cases o with
        | some x =>
          have hx := (c1 x rfl).1
          dsimp only at key
          refine V.brT rfl rfl (oA_m1 (by omega)) ?_
          refine V.run 20 rfl ?_
          have hfin := fin a1 v1 (by rw [key]; exact hr1)
          rw [show oA (rmC B (clsF m) s).2 = oA (some x) by rw [key]] at hfin
          exact hfin
        | none =>
          dsimp only at key
          have hI2 := Inv_mrk hB hI1
          obtain ⟨l2, c2⟩ := fCell_le (B := B) hcl4 hI2.1
          refine V.brF rfl rfl (fun h => h rfl) ?_
          refine V.run 20 rfl ?_
          refine V.cv rfl (m_markNowS hB hn hI1 hr1) rfl rfl ?_
          rintro _ _ ⟨rfl, a2, v2, rfl, hr2, -⟩
          refine V.run 20 rfl ?_
          refine V.cv rfl (m_room hB hr2.2.2.2.2.2.2.2.2 hI2.1 hr2.1 hcl4) rfl rfl ?_
          rintro _ _ ⟨rfl, a3, v3, rfl, hf3, hk3⟩
          refine V.run 20 rfl ?_
          have hfin := fin a3 v3 (by rw [key]; exact hr2.fr hf3 hk3 (fun w hw hne => by rw [← (l2.2.1 w hw hne).1]; exact hne))
          rw [show oA (rmC B (clsF m) s).2 = _ from congrArg (fun q : AS × Option Nat => oA q.2) key] at hfin
          exact hfin
end MS
end
section
theorem x_oi_0 : Cond.methodLink (xm_o 0) 3 Lib.objectInit ∈ xG := x_inG (List.mem_of_getElem? (i := 119) (by decide +kernel)) rfl
theorem x_oi_24 : Cond.methodLink (xm_o 24) 3 Lib.objectInit ∈ xG := x_inG (List.mem_of_getElem? (i := 106) (by decide +kernel)) rfl
theorem x_oi_29 : Cond.methodLink (xm_o 29) 3 Lib.objectInit ∈ xG := x_inG (List.mem_of_getElem? (i := 63) (by decide +kernel)) rfl
theorem x_oi_42 : Cond.methodLink (xm_o 42) 3 Lib.objectInit ∈ xG := x_inG (List.mem_of_getElem? (i := 87) (by decide +kernel)) rfl
theorem x_oi_50 : Cond.methodLink (xm_o 50) 1 Lib.objectInit ∈ xG := x_inG (List.mem_of_getElem? (i := 49) (by decide +kernel)) rfl
theorem x_oi_85 : Cond.methodLink (xm_o 85) 1 Lib.objectInit ∈ xG := x_inG (List.mem_of_getElem? (i := 506) (by decide +kernel)) rfl
theorem x_oi : Cond.instanceMethod Lib.objectInit ∈ xG ∧ Cond.code Lib.objectInit ⟨#[0xb1]⟩ 1 none ∈ xG := ⟨x_inG (List.mem_of_getElem? (i := 50) (by decide +kernel)) rfl, x_inG (List.mem_of_getElem? (i := 51) (by decide +kernel)) rfl⟩
theorem x_mmin : Cond.methodLink (xm_o 50) 9 Lib.Math.min.name ∈ xG ∧ Cond.static Lib.Math.min.name ∈ xG ∧ Cond.initialized "java/lang/Math" ∈ xG ∧ Cond.code Lib.Math.min.name Lib.Math.min.code 2 (some .int) ∈ xG := ⟨x_inG (List.mem_of_getElem? (i := 52) (by decide +kernel)) rfl, x_inG (List.mem_of_getElem? (i := 53) (by decide +kernel)) rfl, x_inG (List.mem_of_getElem? (i := 38) (by decide +kernel)) rfl, x_inG (List.mem_of_getElem? (i := 54) (by decide +kernel)) rfl⟩
theorem x_mmax : Cond.methodLink (xm_o 50) 15 Lib.Math.max.name ∈ xG ∧ Cond.static Lib.Math.max.name ∈ xG ∧ Cond.initialized "java/lang/Math" ∈ xG ∧ Cond.code Lib.Math.max.name Lib.Math.max.code 2 (some .int) ∈ xG := ⟨x_inG (List.mem_of_getElem? (i := 55) (by decide +kernel)) rfl, x_inG (List.mem_of_getElem? (i := 56) (by decide +kernel)) rfl, x_inG (List.mem_of_getElem? (i := 38) (by decide +kernel)) rfl, x_inG (List.mem_of_getElem? (i := 57) (by decide +kernel)) rfl⟩
theorem x_arr : Cond.arrayClass .int ∈ xG ∧ Cond.arrayClass .boolean ∈ xG := ⟨x_inG (List.mem_of_getElem? (i := 80) (by decide +kernel)) rfl, x_inG (List.mem_of_getElem? (i := 81) (by decide +kernel)) rfl⟩
end
section
/-! rules of making -/
def x_adn (ad : Nat → Nat) (p q : Nat) : Nat → Nat := fun i => if i = p then q else ad i
theorem x_adn_ag {ad : Nat → Nat} {p q : Nat} (hp : p < 999) : x_ag p ad (x_adn ad p q) := ⟨fun i hi => by unfold x_adn; rw [if_neg (by omega)], by unfold x_adn; rw [if_neg (by omega)]⟩
theorem x_ckl (ci : Nat) (h : ci < 6) : Cond.instantiable (xc_n ci) (xc_N ci) ∈ xG ∧ Cond.initialized (xc_n ci) ∈ xG := by
  match ci, h with
  | 0, _ => exact x_ck_0
  | 1, _ => exact x_ck_1
  | 2, _ => exact x_ck_2
  | 3, _ => exact x_ck_3
  | 4, _ => exact x_ck_4
  | 5, _ => exact x_ck_5
  | n + 6, h => omega
section VA
variable {X : Option (Nat × (Nat → Int32))} {k : Nat} {Q : Option Value → xW → Prop} {n n' : Nat × Nat} {pc nx a b : Nat} {ls : xL} {st : List Value} {w w' : xW}
theorem x_G.grow {D : va_G} {cI cZ : ClassId} {A : Nat → Prop} {s : State} {ad0 : Nat → Nat} {n0 : Nat} {ad : Nat → Nat} {H H1 : Heap} {locs : List Loc} {e : xC} {e' : va_E} {q : Nat} (hG : x_G X k D cI cZ A s ad0 n0 ad w H locs) (ha : xm_a k = true) (hp : w.length < 999) (hw : w.all (x_okE w.length) = true) (he : x_trE cI cZ (x_adn ad w.length q) e = e')
    (h1 : va_P D xcl (x_rl cI cZ ad 0 w ++ [(q, e')]) H1) (h2 : va_D A (x_rl cI cZ ad 0 w ++ [(q, e')])) (h3 : va_S A s.heap H1 locs) : x_G X k D cI cZ A s ad0 n0 (x_adn ad w.length q) (w ++ [e]) H1 locs := by
  have hag : x_ag w.length ad (x_adn ad w.length q) := x_adn_ag hp
  have er : x_rl cI cZ (x_adn ad w.length q) 0 (w ++ [e]) = x_rl cI cZ ad 0 w ++ [(q, e')] := by
    rw [x_rl_app, x_rl_ag hag w 0 (by omega) hw, he, Nat.zero_add]
    congr 3
    unfold x_adn
    rw [if_pos rfl]
  obtain ⟨g1, g2, g3, g4, g5, g6, g7⟩ := hG
  refine ⟨by rw [er]; exact h1, by rw [er]; exact h2, h3, fun h => absurd (h.symm.trans ha) (by decide), g5.tr hag g6, by rw [List.length_append]; omega, ?_⟩
  cases X with
  | none => trivial
  | some z =>
    have e9 := hag.2
    show va_X (x_adn ad w.length q 999) _ _ _ _ ∧ x_adn ad w.length q 999 < _ ∧ ¬ A (x_adn ad w.length q 999)
    rw [e9]
    exact g7
/-- a new object -/
theorem V.new {idx ci : Nat} {fs : List Value} (hd : xm_i k pc = some (.new idx, nx, ci, b)) (hf : (List.range (xc_N ci)).map (fun j => defaultValue (xc_t ci j)) = fs) (hft : ∀ ad : Nat → Nat, fs.map (x_tr ad) = fs) (hok : (ls.all (fun q => x_okv w.length q.2) && (st.all (x_okv w.length) && w.all (x_okE w.length))) = true) (hw' : w ++ [.inr (ci, fs)] = w') (hn : n.1 + 1 ≤ n'.1 ∧ n.2 + xc_N ci ≤ n'.2) (hn' : n'.1 ≤ (xm_R k).cells ∧ n'.2 ≤ (xm_R k).slots)
    (kk : V X k Q n' nx ls (.ref w.length :: st) w') (ha : xm_a k = true := by rfl) (hl : Nat.ble (w.length + 1) 999 = true := by rfl) : V X k Q n pc ls st w := by
  intro p l e s m args below meth c D cI cZ A QQ ad0 n0 C hR ad H locs La hG hll
  obtain ⟨hdc, hnx, hex⟩ := C.2.2.2.2.2.2.2.2.2 pc _ hd
  dsimp only at hdc hnx hex
  have hnx : nx = pc + 3 := hnx
  subst hnx
  simp only [Bool.and_eq_true] at hok
  obtain ⟨ok1, ok2, ok3⟩ := hok
  have hlt : w.length < 999 := Nat.le_of_ble_eq_true hl
  have hts := C.2.2.2.2.1
  have h6 : ci < 6 := by
    have : ∀ e ∈ x_nw, e.2.2 < 6 := by decide
    exact this _ hex
  subst hw'
  refine va_new (D := D) (ci := ci) (C := xc_n ci) (T := xc_T ci) (N := xc_N ci) (fs := fs) C.1 C.2.1 hts (x_us ci h6) (xc_t ci) (x_tyo ci h6) C.2.2.2.1 (hts _ (x_nw_ok _ hex)) (hts _ (x_ckl ci h6).1) (hts _ (x_ckl ci h6).2) C.2.2.2.2.2.1 hG.1 hG.2.1 hG.2.2.1 C.2.2.2.2.2.2.1 (x_xcl h6) (fun j hj => ?_) (by omega) (by omega) hdc (fun q H1 h1 h2 h3 => ?_)
  · subst hf
    unfold vp_V
    rw [List.getD_eq_getElem?_getD, List.getElem?_map, List.getElem?_range hj]
    rfl
  · have hag : x_ag w.length ad (x_adn ad w.length q) := x_adn_ag hlt
    have hG' := hG.grow (e := .inr (ci, fs)) (q := q) ha hlt ok3 (by show Sum.inr (ci, fs.map (x_tr _)) = _; rw [hft]) h1 h2 h3
    have hl' : lv_has La (xm_L k) (ls.map (x_trp (x_adn ad w.length q))) := by rw [x_trl_ag hag ok1]; exact hll
    have K := kk p l e s m args below meth c D cI cZ A QQ ad0 n0 C hR _ H1 locs La hG' hl'
    rw [List.map_cons, x_trL_ag hag ok2] at K
    have eq : x_tr (x_adn ad w.length q) (.ref w.length) = .ref q := by
      show Value.ref (x_adn ad w.length q w.length) = _
      unfold x_adn
      rw [if_pos rfl]
    rw [eq] at K
    exact W.widen hn.1 hn.2 K
/-- a new array of ints -/
theorem V.newI {N : Nat} {i : Int32} (hd : xm_i k pc = some (.newarray .int, nx, a, b)) (hi : i = nI N) (hN : N ≤ 512) (hok : (ls.all (fun q => x_okv w.length q.2) && (st.all (x_okv w.length) && w.all (x_okE w.length))) = true) (hw' : w ++ [.inl (false, N, fun _ => 0)] = w') (hn : n.1 + 1 ≤ n'.1 ∧ n.2 + N ≤ n'.2) (hn' : n'.1 ≤ (xm_R k).cells ∧ n'.2 ≤ (xm_R k).slots)
    (kk : V X k Q n' nx ls (.ref w.length :: st) w') (ha : xm_a k = true := by rfl) (hl : Nat.ble (w.length + 1) 999 = true := by rfl) : V X k Q n pc ls (.int i :: st) w := by
  intro p l e s m args below meth c D cI cZ A QQ ad0 n0 C hR ad H locs La hG hll
  obtain ⟨hdc, hnx, hex⟩ := C.2.2.2.2.2.2.2.2.2 pc _ hd
  dsimp only at hdc hnx hex
  have hnx : nx = pc + 2 := hnx
  subst hnx
  simp only [Bool.and_eq_true] at hok
  obtain ⟨ok1, ok2, ok3⟩ := hok
  have hlt : w.length < 999 := Nat.le_of_ble_eq_true hl
  have hts := C.2.2.2.2.1
  subst hw'
  subst hi
  refine va_newa (D := D) (a0 := (N, .inl (fun _ => 0))) (ty := .int) (atype := .int) C.1 C.2.1 (hts _ x_arr.1) rfl C.2.2.2.2.2.1 hG.1 hG.2.1 hG.2.2.1 C.2.2.2.2.2.2.1 (fun cA => rfl) (nI_pos (by omega)) (nI_clamp (by omega)) (by show N * 4 ≤ _; omega) (by omega) (by omega) hdc (fun q cA H1 hK h1 h2 h3 => ?_)
  have e1 : cA = cI := by
    have r1 : va_RA s cA .int := (hK.2 2 _ rfl).2
    have r2 : va_RA s cI .int := (C.2.2.2.2.2.1.2 0 _ rfl).2
    exact Option.some.inj (Eq.trans (Eq.symm r1) r2)
  subst e1
  have hag : x_ag w.length ad (x_adn ad w.length q) := x_adn_ag hlt
  have hG' := hG.grow (e := .inl (false, N, fun _ => 0)) (q := q) ha hlt ok3 rfl h1 h2 h3
  have hl' : lv_has La (xm_L k) (ls.map (x_trp (x_adn ad w.length q))) := by rw [x_trl_ag hag ok1]; exact hll
  have K := kk p l e s m args below meth c D cA cZ A QQ ad0 n0 C hR _ H1 locs La hG' hl'
  rw [List.map_cons, x_trL_ag hag ok2] at K
  have eq : x_tr (x_adn ad w.length q) (.ref w.length) = .ref q := by
    show Value.ref (x_adn ad w.length q w.length) = _
    unfold x_adn
    rw [if_pos rfl]
  rw [eq] at K
  exact W.widen hn.1 hn.2 K
theorem V.newZ {N : Nat} {i : Int32} (hd : xm_i k pc = some (.newarray .boolean, nx, a, b)) (hi : i = nI N) (hN : N ≤ 512) (hok : (ls.all (fun q => x_okv w.length q.2) && (st.all (x_okv w.length) && w.all (x_okE w.length))) = true) (hw' : w ++ [.inl (true, N, fun _ => 0)] = w') (hn : n.1 + 1 ≤ n'.1 ∧ n.2 + N ≤ n'.2) (hn' : n'.1 ≤ (xm_R k).cells ∧ n'.2 ≤ (xm_R k).slots)
    (kk : V X k Q n' nx ls (.ref w.length :: st) w') (ha : xm_a k = true := by rfl) (hl : Nat.ble (w.length + 1) 999 = true := by rfl) : V X k Q n pc ls (.int i :: st) w := by
  intro p l e s m args below meth c D cI cZ A QQ ad0 n0 C hR ad H locs La hG hll
  obtain ⟨hdc, hnx, hex⟩ := C.2.2.2.2.2.2.2.2.2 pc _ hd
  dsimp only at hdc hnx hex
  have hnx : nx = pc + 2 := hnx
  subst hnx
  simp only [Bool.and_eq_true] at hok
  obtain ⟨ok1, ok2, ok3⟩ := hok
  have hlt : w.length < 999 := Nat.le_of_ble_eq_true hl
  have hts := C.2.2.2.2.1
  subst hw'
  subst hi
  refine va_newa (D := D) (a0 := (N, .inl (fun _ => 0))) (ty := .boolean) (atype := .boolean) C.1 C.2.1 (hts _ x_arr.2) rfl C.2.2.2.2.2.1 hG.1 hG.2.1 hG.2.2.1 C.2.2.2.2.2.2.1 (fun cA => rfl) (nI_pos (by omega)) (nI_clamp (by omega)) (by show N * 1 ≤ _; omega) (by omega) (by omega) hdc (fun q cA H1 hK h1 h2 h3 => ?_)
  have e1 : cA = cZ := by
    have r1 : va_RA s cA .boolean := (hK.2 2 _ rfl).2
    have r2 : va_RA s cZ .boolean := (C.2.2.2.2.2.1.2 1 _ rfl).2
    exact Option.some.inj (Eq.trans (Eq.symm r1) r2)
  subst e1
  have hag : x_ag w.length ad (x_adn ad w.length q) := x_adn_ag hlt
  have hG' := hG.grow (e := .inl (true, N, fun _ => 0)) (q := q) ha hlt ok3 rfl h1 h2 h3
  have hl' : lv_has La (xm_L k) (ls.map (x_trp (x_adn ad w.length q))) := by rw [x_trl_ag hag ok1]; exact hll
  have K := kk p l e s m args below meth c D cI cA A QQ ad0 n0 C hR _ H1 locs La hG' hl'
  rw [List.map_cons, x_trL_ag hag ok2] at K
  have eq : x_tr (x_adn ad w.length q) (.ref w.length) = .ref q := by
    show Value.ref (x_adn ad w.length q w.length) = _
    unfold x_adn
    rw [if_pos rfl]
  rw [eq] at K
  exact W.widen hn.1 hn.2 K
/-- a put of a final field, in a constructor -/
theorem V.putF {o ci : Nat} {fs : List Value} {idx : Nat} {v : Value} (hd : xm_i k pc = some (.putfield idx, nx, ci, b)) (hw : w[o]? = some (.inr (ci, fs))) (hw' : w.set o (.inr (ci, fs.set b v)) = w') (kk : V X k Q n nx ls st w') (hv : ∀ ad : Nat → Nat, narrow (xc_t ci b) (x_tr ad v) = x_tr ad v ∧ fits (xc_t ci b) (x_tr ad v) = true := by exact fun _ => ⟨rfl, rfl⟩) (hb : Nat.ble (b + 1) fs.length = true := by rfl) (hfin : (xc_T ci b).2.2.2 = true := by rfl) (hdecl : (xc_T ci b).1 = xm_o k := by rfl) (hni : xm_n k = true := by rfl) : V X k Q n pc ls (v :: .ref o :: st) w := by
  intro p l e s m args below meth c D cI cZ A QQ ad0 n0 C hR ad H locs La hG hl
  obtain ⟨hdc, hnx, hex⟩ := C.2.2.2.2.2.2.2.2.2 pc _ hd
  dsimp only at hdc hnx hex
  have hnx : nx = pc + 3 := hnx
  subst hnx
  obtain ⟨hcl, hlt, hlink⟩ := x_fl_ok _ hex
  have h6 := x_cl6 hcl
  refine va_putF (D := D) (ci := ci) (v := x_tr ad v) (ty := xc_t ci b) (fs := fs.map (x_tr ad)) (C := xc_n ci) (T := xc_T ci) (N := xc_N ci) C.1 C.2.1 C.2.2.2.2.1 (x_us ci h6) (xc_t ci) (x_tyo ci h6) (x_nmo ci h6) C.2.2.2.1 C.2.2.2.2.2.1 hG.1 hG.2.1 hG.2.2.1 o (x_rl_at hw) hcl b hlt (C.2.2.2.2.1 _ hlink) (fun _ h => h) hfin (C.2.2.2.2.2.2.2.2.1 hni) hdecl (x_tyo ci h6 b hlt) (hv ad).1 (hv ad).2 (by rw [List.length_map]; exact Nat.le_of_ble_eq_true hb) hdc (fun H1 locs1 h1 h2 h3 => ?_)
  have he : (Sum.inr (ci, (fs.map (x_tr ad)).set b (x_tr ad v)) : va_E) = x_trE cI cZ ad (.inr (ci, fs.set b v)) := by
    simp only [x_trE, List.map_set]
  rw [he] at h1 h2
  exact kk p l e s m args below meth c D cI cZ A QQ ad0 n0 C hR ad H1 locs1 La (hG.set hw' h1 h2 h3) hl
/-- the library's own constructor -/
theorem V.oinit {o idx : Nat} (hd : xm_i k pc = some (.invokespecial idx, nx, a, b)) (hlink : Cond.methodLink (xm_o k) idx Lib.objectInit ∈ xG) (kk : V X k Q n nx ls st w) (hf : Nat.ble 1 (xm_R k).frames = true := by rfl) (hl : Nat.ble ((st.map fun v => v.category).sum + 12) (xm_R k).locals = true := by rfl) : V X k Q n pc ls (.ref o :: st) w := by
  intro p l e s m args below meth c D cI cZ A QQ ad0 n0 C hR ad H locs La hG hll
  obtain ⟨hdc, hnx, hex⟩ := C.2.2.2.2.2.2.2.2.2 pc _ hd
  dsimp only at hdc hnx hex
  have hnx : nx = pc + 3 := hnx
  subst hnx
  have hts := C.2.2.2.2.1
  refine W.objInit (own := xm_o k) (a := ad o) (rest := st.map (x_tr ad)) C.1 C.2.1 C.2.2.2.1 (hts _ hlink) (hts _ x_oi.1) (hts _ x_oi.2) rfl (hll.1.trans C.2.2.1.symm) rfl hdc (Nat.le_of_ble_eq_true hf) (by show 2 * 0 + _ + 12 ≤ _; rw [x_catl]; have := Nat.le_of_ble_eq_true hl; omega) ?_
  exact kk p l e s m args below meth c D cI cZ A QQ ad0 n0 C hR ad H locs La hG hll
theorem V.mmin {x y : Int32} {idx : Nat} (hd : xm_i 50 pc = some (.invokestatic idx, nx, a, b)) (hi : idx = 9) (kk : V X 50 Q n nx ls (.int (if y < x then y else x) :: st) w) (hl : Nat.ble ((st.map fun v => v.category).sum + 13) (xm_R 50).locals = true := by rfl) (hc : Nat.ble n.1 (xm_R 50).cells = true := by rfl) (hs : Nat.ble n.2 (xm_R 50).slots = true := by rfl) : V X 50 Q n pc ls (.int y :: .int x :: st) w := by
  intro p l e s m args below meth c D cI cZ A QQ ad0 n0 C hR ad H locs La hG hll
  obtain ⟨hdc, hnx, hex⟩ := C.2.2.2.2.2.2.2.2.2 pc _ hd
  dsimp only at hdc hnx hex
  have hnx : nx = pc + 3 := hnx
  subst hnx
  subst hi
  have hts := C.2.2.2.2.1
  exact va_mmin (own := xm_o 50) C.1 C.2.1 (C.2.2.1.trans hll.1.symm) C.2.2.2.1 (hts _ x_mmin.1) (hts _ x_mmin.2.1) (hts _ x_mmin.2.2.1) (hts _ x_mmin.2.2.2) (Nat.le_of_ble_eq_true rfl) (by rw [x_catl]; exact Nat.le_of_ble_eq_true hl) (Nat.le_of_ble_eq_true hc) (Nat.le_of_ble_eq_true hs) hdc (kk p l e s m args below meth c D cI cZ A QQ ad0 n0 C hR ad H locs La hG hll)
theorem V.mmax {x y : Int32} {idx : Nat} (hd : xm_i 50 pc = some (.invokestatic idx, nx, a, b)) (hi : idx = 15) (kk : V X 50 Q n nx ls (.int (if x < y then y else x) :: st) w) (hl : Nat.ble ((st.map fun v => v.category).sum + 13) (xm_R 50).locals = true := by rfl) (hc : Nat.ble n.1 (xm_R 50).cells = true := by rfl) (hs : Nat.ble n.2 (xm_R 50).slots = true := by rfl) : V X 50 Q n pc ls (.int y :: .int x :: st) w := by
  intro p l e s m args below meth c D cI cZ A QQ ad0 n0 C hR ad H locs La hG hll
  obtain ⟨hdc, hnx, hex⟩ := C.2.2.2.2.2.2.2.2.2 pc _ hd
  dsimp only at hdc hnx hex
  have hnx : nx = pc + 3 := hnx
  subst hnx
  subst hi
  have hts := C.2.2.2.2.1
  exact va_mmax (own := xm_o 50) C.1 C.2.1 (C.2.2.1.trans hll.1.symm) C.2.2.2.1 (hts _ x_mmax.1) (hts _ x_mmax.2.1) (hts _ x_mmax.2.2.1) (hts _ x_mmax.2.2.2) (Nat.le_of_ble_eq_true rfl) (by rw [x_catl]; exact Nat.le_of_ble_eq_true hl) (Nat.le_of_ble_eq_true hc) (Nat.le_of_ble_eq_true hs) hdc (kk p l e s m args below meth c D cI cZ A QQ ad0 n0 C hR ad H locs La hG hll)
/-- a constructor's call, that makes: the room is taken as it is -/
theorem V.ci {idx j o : Nat} {as rest : List Value} {Qj : Option Value → xW → Prop} (hd : xm_i k pc = some (.invokespecial idx, nx, j, b)) (ht : Tot none j (.ref o :: as) w Qj) (hst : as.reverse ++ .ref o :: rest = st)
    (kk : ∀ v w', Qj v w' → V X k Q (n.1 + (xm_R j).cells, n.2 + (xm_R j).slots) nx ls (v.toList ++ rest) w') (hok : (ls.all (fun q => x_okv w.length q.2) && rest.all (x_okv w.length)) = true := by rfl) (hj : Nat.ble j 899 = true := by rfl) (hlen : Nat.beq as.length b = true := by rfl) (hW : Nat.ble (rest.map fun v => v.category).sum 8 = true := by rfl) (ha : xm_a k = true := by rfl) (hn : Nat.ble (n.1 + (xm_R j).cells) (xm_R k).cells = true := by rfl) (hm : Nat.ble (n.2 + (xm_R j).slots) (xm_R k).slots = true := by rfl) : V X k Q n pc ls st w := by
  rw [Bool.and_eq_true] at hok
  exact V.callI hd hj ht hst (Nat.eq_of_beq_eq_true hlen) (Nat.le_of_ble_eq_true hW) (Or.inl rfl) (Or.inr ⟨ha, hok⟩) ⟨Nat.le_of_ble_eq_true hn, Nat.le_of_ble_eq_true hm⟩ kk
end VA
end
section
section VN
variable {X : Option (Nat × (Nat → Int32))} {k : Nat} {Q : Option Value → xW → Prop} {n : Nat × Nat} {pc nx a b : Nat} {ls : xL} {st : List Value} {w : xW}
theorem V.mkI {N : Nat} {i : Int32} (n' : Nat × Nat) (o : Nat) (w' : xW) (hd : xm_i k pc = some (.newarray .int, nx, a, b)) (hi : i = nI N) (hN : N ≤ 512) (hn : n.1 + 1 ≤ n'.1 ∧ n.2 + N ≤ n'.2) (kk : V X k Q n' nx ls (.ref o :: st) w') (ho : w.length = o := by rfl) (hok : (ls.all (fun q => x_okv w.length q.2) && (st.all (x_okv w.length) && w.all (x_okE w.length))) = true := by rfl) (hw' : w ++ [.inl (false, N, fun _ => 0)] = w' := by rfl) (hc : Nat.ble n'.1 (xm_R k).cells = true := by rfl) (hs : Nat.ble n'.2 (xm_R k).slots = true := by rfl) (ha : xm_a k = true := by rfl) (hl : Nat.ble (w.length + 1) 999 = true := by rfl) : V X k Q n pc ls (.int i :: st) w := by
  subst ho
  exact V.newI hd hi hN hok hw' hn ⟨Nat.le_of_ble_eq_true hc, Nat.le_of_ble_eq_true hs⟩ kk ha hl
theorem V.mkZ {N : Nat} {i : Int32} (n' : Nat × Nat) (o : Nat) (w' : xW) (hd : xm_i k pc = some (.newarray .boolean, nx, a, b)) (hi : i = nI N) (hN : N ≤ 512) (hn : n.1 + 1 ≤ n'.1 ∧ n.2 + N ≤ n'.2) (kk : V X k Q n' nx ls (.ref o :: st) w') (ho : w.length = o := by rfl) (hok : (ls.all (fun q => x_okv w.length q.2) && (st.all (x_okv w.length) && w.all (x_okE w.length))) = true := by rfl) (hw' : w ++ [.inl (true, N, fun _ => 0)] = w' := by rfl) (hc : Nat.ble n'.1 (xm_R k).cells = true := by rfl) (hs : Nat.ble n'.2 (xm_R k).slots = true := by rfl) (ha : xm_a k = true := by rfl) (hl : Nat.ble (w.length + 1) 999 = true := by rfl) : V X k Q n pc ls (.int i :: st) w := by
  subst ho
  exact V.newZ hd hi hN hok hw' hn ⟨Nat.le_of_ble_eq_true hc, Nat.le_of_ble_eq_true hs⟩ kk ha hl
theorem V.mkO {idx ci : Nat} (n' : Nat × Nat) (o : Nat) (fs : List Value) (w' : xW) (hd : xm_i k pc = some (.new idx, nx, ci, b)) (kk : V X k Q n' nx ls (.ref o :: st) w') (hn : (Nat.ble (n.1 + 1) n'.1 && Nat.ble (n.2 + xc_N ci) n'.2) = true := by rfl) (hf : (List.range (xc_N ci)).map (fun j => defaultValue (xc_t ci j)) = fs := by rfl) (hft : ∀ ad : Nat → Nat, fs.map (x_tr ad) = fs := by exact fun _ => rfl) (ho : w.length = o := by rfl) (hok : (ls.all (fun q => x_okv w.length q.2) && (st.all (x_okv w.length) && w.all (x_okE w.length))) = true := by rfl) (hw' : w ++ [.inr (ci, fs)] = w' := by rfl) (hc : Nat.ble n'.1 (xm_R k).cells = true := by rfl) (hs : Nat.ble n'.2 (xm_R k).slots = true := by rfl) (ha : xm_a k = true := by rfl) (hl : Nat.ble (w.length + 1) 999 = true := by rfl) : V X k Q n pc ls st w := by
  subst ho
  rw [Bool.and_eq_true] at hn
  exact V.new hd hf hft hok hw' ⟨Nat.le_of_ble_eq_true hn.1, Nat.le_of_ble_eq_true hn.2⟩ ⟨Nat.le_of_ble_eq_true hc, Nat.le_of_ble_eq_true hs⟩ kk ha hl
/-- an end of a constructor, at any room within its own -/
theorem V.rvn (hd : xm_i k pc = some (.return_, nx, a, b)) (hq : Q none w) (hn : n.1 ≤ (xm_R k).cells ∧ n.2 ≤ (xm_R k).slots) (hr : xm_r k = none := by rfl) : V X k Q n pc ls [] w := V.retv hd hr hn hq
end VN
abbrev z0 : Nat → Int32 := fun _ => 0
section CC
variable {B : Nat}
abbrev fN4 : List Value := [.null, .null, .null, .null, .null, .null, .int 0, .int 0]
theorem i_Store (hB : B ≤ 16) : Tot none kX2_init [.ref 1, .int (nI (32 * B))] [.inr (4, [.null, .null, .null, .null, .null, .null, .int 0, .int 0]), .inr (2, [.null, .null, .null, .null, .null])] (fun o w' => o = none ∧ ∃ f, w' = [.inr (4, [.null, .null, .null, .null, .null, .null, .int 0, .int 0]), .inr (2, [.ref 2, .ref 3, .ref 4, .ref 5, .ref 6]), .inl (false, 32 * B, f), .inl (false, 32 * B, z0), .inl (true, 32 * B, z0), .inl (false, 32 * B, z0), .inl (false, 32 * B, z0)] ∧ ∀ x, x < 32 * B → f x = -1) := by
  refine eX2_init ?_
  refine V.run 20 rfl ?_
  refine V.oinit rfl x_oi_29 ?_
  refine V.run 20 rfl ?_
  refine V.mkI (1, 512) 2 [.inr (4, [.null, .null, .null, .null, .null, .null, .int 0, .int 0]), .inr (2, [.null, .null, .null, .null, .null]), .inl (false, 32 * B, z0)] rfl rfl (by omega) ⟨by decide, by show 0 + 32 * B ≤ 512; omega⟩ ?_
  refine V.putF (w' := [.inr (4, [.null, .null, .null, .null, .null, .null, .int 0, .int 0]), .inr (2, [.ref 2, .null, .null, .null, .null]), .inl (false, 32 * B, z0)]) rfl rfl rfl ?_
  refine V.run 20 rfl ?_
  refine V.mkI (2, 1024) 3 [.inr (4, [.null, .null, .null, .null, .null, .null, .int 0, .int 0]), .inr (2, [.ref 2, .null, .null, .null, .null]), .inl (false, 32 * B, z0), .inl (false, 32 * B, z0)] rfl rfl (by omega) ⟨by decide, by show 512 + 32 * B ≤ 1024; omega⟩ ?_
  refine V.putF (w' := [.inr (4, [.null, .null, .null, .null, .null, .null, .int 0, .int 0]), .inr (2, [.ref 2, .ref 3, .null, .null, .null]), .inl (false, 32 * B, z0), .inl (false, 32 * B, z0)]) rfl rfl rfl ?_
  refine V.run 20 rfl ?_
  refine V.mkZ (3, 1536) 4 [.inr (4, [.null, .null, .null, .null, .null, .null, .int 0, .int 0]), .inr (2, [.ref 2, .ref 3, .null, .null, .null]), .inl (false, 32 * B, z0), .inl (false, 32 * B, z0), .inl (true, 32 * B, z0)] rfl rfl (by omega) ⟨by decide, by show 1024 + 32 * B ≤ 1536; omega⟩ ?_
  refine V.putF (w' := [.inr (4, [.null, .null, .null, .null, .null, .null, .int 0, .int 0]), .inr (2, [.ref 2, .ref 3, .ref 4, .null, .null]), .inl (false, 32 * B, z0), .inl (false, 32 * B, z0), .inl (true, 32 * B, z0)]) rfl rfl rfl ?_
  refine V.run 20 rfl ?_
  refine V.mkI (4, 2048) 5 [.inr (4, [.null, .null, .null, .null, .null, .null, .int 0, .int 0]), .inr (2, [.ref 2, .ref 3, .ref 4, .null, .null]), .inl (false, 32 * B, z0), .inl (false, 32 * B, z0), .inl (true, 32 * B, z0), .inl (false, 32 * B, z0)] rfl rfl (by omega) ⟨by decide, by show 1536 + 32 * B ≤ 2048; omega⟩ ?_
  refine V.putF (w' := [.inr (4, [.null, .null, .null, .null, .null, .null, .int 0, .int 0]), .inr (2, [.ref 2, .ref 3, .ref 4, .ref 5, .null]), .inl (false, 32 * B, z0), .inl (false, 32 * B, z0), .inl (true, 32 * B, z0), .inl (false, 32 * B, z0)]) rfl rfl rfl ?_
  refine V.run 20 rfl ?_
  refine V.mkI (5, 2560) 6 [.inr (4, [.null, .null, .null, .null, .null, .null, .int 0, .int 0]), .inr (2, [.ref 2, .ref 3, .ref 4, .ref 5, .null]), .inl (false, 32 * B, z0), .inl (false, 32 * B, z0), .inl (true, 32 * B, z0), .inl (false, 32 * B, z0), .inl (false, 32 * B, z0)] rfl rfl (by omega) ⟨by decide, by show 2048 + 32 * B ≤ 2560; omega⟩ ?_
  refine V.putF (w' := [.inr (4, [.null, .null, .null, .null, .null, .null, .int 0, .int 0]), .inr (2, [.ref 2, .ref 3, .ref 4, .ref 5, .ref 6]), .inl (false, 32 * B, z0), .inl (false, 32 * B, z0), .inl (true, 32 * B, z0), .inl (false, 32 * B, z0), .inl (false, 32 * B, z0)]) rfl rfl rfl ?_
  refine V.run 20 rfl ?_
  have loop : ∀ (m i : Nat) (f : Nat → Int32), i + m = 32 * B → (∀ x, x < i → f x = -1) → V none 29 (fun o w' => o = none ∧ ∃ f, w' = [.inr (4, [.null, .null, .null, .null, .null, .null, .int 0, .int 0]), .inr (2, [.ref 2, .ref 3, .ref 4, .ref 5, .ref 6]), .inl (false, 32 * B, f), .inl (false, 32 * B, z0), .inl (true, 32 * B, z0), .inl (false, 32 * B, z0), .inl (false, 32 * B, z0)] ∧ ∀ x, x < 32 * B → f x = -1) (5, 2560) 43 [(0, .ref 1), (1, .int (nI (32 * B))), (2, .int (nI i))] [.int (nI (32 * B)), .int (nI i)] [.inr (4, [.null, .null, .null, .null, .null, .null, .int 0, .int 0]), .inr (2, [.ref 2, .ref 3, .ref 4, .ref 5, .ref 6]), .inl (false, 32 * B, f), .inl (false, 32 * B, z0), .inl (true, 32 * B, z0), .inl (false, 32 * B, z0), .inl (false, 32 * B, z0)] := by
    intro m
    induction m with
    | zero =>
      intro i f hi hf
      refine V.brT rfl rfl (nI_le (by omega) (by omega)) ?_
      exact V.rv rfl ⟨rfl, f, rfl, fun x hx => hf x (by omega)⟩
    | succ m ih =>
      intro i f hi hf
      refine V.brF rfl rfl (nI_ge (show i < 32 * B by omega) (by omega)) ?_
      refine V.run 20 rfl ?_
      refine V.iast (w' := [.inr (4, [.null, .null, .null, .null, .null, .null, .int 0, .int 0]), .inr (2, [.ref 2, .ref 3, .ref 4, .ref 5, .ref 6]), .inl (false, 32 * B, (upd f i (-1))), .inl (false, 32 * B, z0), .inl (true, 32 * B, z0), .inl (false, 32 * B, z0), .inl (false, 32 * B, z0)]) rfl rfl rfl (show i < 32 * B by omega) (by omega) rfl ?_
      refine V.run 20 rfl ?_
      rw [nI_add]
      refine ih (i + 1) _ (by omega) (fun x hx => ?_)
      by_cases q : x = i
      · subst q; exact upd_s
      · rw [upd_n q]; exact hf x (by omega)
  exact loop (32 * B) 0 z0 (by omega) (fun x hx => absurd hx (Nat.not_lt_zero x))
theorem i_Walk1 (hB : B ≤ 16) {f1 : Nat → Int32} : Tot none kX3_init [.ref 7, .int (nI (32 * B))] [.inr (4, [.ref 1, .null, .null, .null, .null, .null, .int 0, .int 0]), .inr (2, [.ref 2, .ref 3, .ref 4, .ref 5, .ref 6]), .inl (false, 32 * B, f1), .inl (false, 32 * B, z0), .inl (true, 32 * B, z0), .inl (false, 32 * B, z0), .inl (false, 32 * B, z0), .inr (3, [.null, .null, .int 0, .int 0])] (fun o w' => o = none ∧ ∃ f, w' = [.inr (4, [.ref 1, .null, .null, .null, .null, .null, .int 0, .int 0]), .inr (2, [.ref 2, .ref 3, .ref 4, .ref 5, .ref 6]), .inl (false, 32 * B, f1), .inl (false, 32 * B, z0), .inl (true, 32 * B, z0), .inl (false, 32 * B, z0), .inl (false, 32 * B, z0), .inr (3, [.ref 8, .ref 9, .int 0, .int 0]), .inl (false, 16 * B, z0), .inl (false, 32 * B, f)] ∧ ∀ x, x < 32 * B → f x = -1) := by
  refine eX3_init ?_
  refine V.run 20 rfl ?_
  refine V.oinit rfl x_oi_42 ?_
  refine V.run 20 rfl ?_
  refine V.idiv rfl (by decide) ?_
  rw [pk_div (by omega) (by omega) (by omega), show 32 * B / 2 = 16 * B by omega]
  refine V.mkI (1, 256) 8 [.inr (4, [.ref 1, .null, .null, .null, .null, .null, .int 0, .int 0]), .inr (2, [.ref 2, .ref 3, .ref 4, .ref 5, .ref 6]), .inl (false, 32 * B, f1), .inl (false, 32 * B, z0), .inl (true, 32 * B, z0), .inl (false, 32 * B, z0), .inl (false, 32 * B, z0), .inr (3, [.null, .null, .int 0, .int 0]), .inl (false, 16 * B, z0)] rfl rfl (by omega) ⟨by decide, by show 0 + 16 * B ≤ 256; omega⟩ ?_
  refine V.putF (w' := [.inr (4, [.ref 1, .null, .null, .null, .null, .null, .int 0, .int 0]), .inr (2, [.ref 2, .ref 3, .ref 4, .ref 5, .ref 6]), .inl (false, 32 * B, f1), .inl (false, 32 * B, z0), .inl (true, 32 * B, z0), .inl (false, 32 * B, z0), .inl (false, 32 * B, z0), .inr (3, [.ref 8, .null, .int 0, .int 0]), .inl (false, 16 * B, z0)]) rfl rfl rfl ?_
  refine V.run 20 rfl ?_
  refine V.mkI (2, 768) 9 [.inr (4, [.ref 1, .null, .null, .null, .null, .null, .int 0, .int 0]), .inr (2, [.ref 2, .ref 3, .ref 4, .ref 5, .ref 6]), .inl (false, 32 * B, f1), .inl (false, 32 * B, z0), .inl (true, 32 * B, z0), .inl (false, 32 * B, z0), .inl (false, 32 * B, z0), .inr (3, [.ref 8, .null, .int 0, .int 0]), .inl (false, 16 * B, z0), .inl (false, 32 * B, z0)] rfl rfl (by omega) ⟨by decide, by show 256 + 32 * B ≤ 768; omega⟩ ?_
  refine V.putF (w' := [.inr (4, [.ref 1, .null, .null, .null, .null, .null, .int 0, .int 0]), .inr (2, [.ref 2, .ref 3, .ref 4, .ref 5, .ref 6]), .inl (false, 32 * B, f1), .inl (false, 32 * B, z0), .inl (true, 32 * B, z0), .inl (false, 32 * B, z0), .inl (false, 32 * B, z0), .inr (3, [.ref 8, .ref 9, .int 0, .int 0]), .inl (false, 16 * B, z0), .inl (false, 32 * B, z0)]) rfl rfl rfl ?_
  refine V.run 20 rfl ?_
  have loop : ∀ (m i : Nat) (f : Nat → Int32), i + m = 32 * B → (∀ x, x < i → f x = -1) → V none 42 (fun o w' => o = none ∧ ∃ f, w' = [.inr (4, [.ref 1, .null, .null, .null, .null, .null, .int 0, .int 0]), .inr (2, [.ref 2, .ref 3, .ref 4, .ref 5, .ref 6]), .inl (false, 32 * B, f1), .inl (false, 32 * B, z0), .inl (true, 32 * B, z0), .inl (false, 32 * B, z0), .inl (false, 32 * B, z0), .inr (3, [.ref 8, .ref 9, .int 0, .int 0]), .inl (false, 16 * B, z0), .inl (false, 32 * B, f)] ∧ ∀ x, x < 32 * B → f x = -1) (2, 768) 24 [(0, .ref 7), (1, .int (nI (32 * B))), (2, .int (nI i))] [.int (nI (32 * B)), .int (nI i)] [.inr (4, [.ref 1, .null, .null, .null, .null, .null, .int 0, .int 0]), .inr (2, [.ref 2, .ref 3, .ref 4, .ref 5, .ref 6]), .inl (false, 32 * B, f1), .inl (false, 32 * B, z0), .inl (true, 32 * B, z0), .inl (false, 32 * B, z0), .inl (false, 32 * B, z0), .inr (3, [.ref 8, .ref 9, .int 0, .int 0]), .inl (false, 16 * B, z0), .inl (false, 32 * B, f)] := by
    intro m
    induction m with
    | zero =>
      intro i f hi hf
      refine V.brT rfl rfl (nI_le (by omega) (by omega)) ?_
      exact V.rv rfl ⟨rfl, f, rfl, fun x hx => hf x (by omega)⟩
    | succ m ih =>
      intro i f hi hf
      refine V.brF rfl rfl (nI_ge (show i < 32 * B by omega) (by omega)) ?_
      refine V.run 20 rfl ?_
      refine V.iast (w' := [.inr (4, [.ref 1, .null, .null, .null, .null, .null, .int 0, .int 0]), .inr (2, [.ref 2, .ref 3, .ref 4, .ref 5, .ref 6]), .inl (false, 32 * B, f1), .inl (false, 32 * B, z0), .inl (true, 32 * B, z0), .inl (false, 32 * B, z0), .inl (false, 32 * B, z0), .inr (3, [.ref 8, .ref 9, .int 0, .int 0]), .inl (false, 16 * B, z0), .inl (false, 32 * B, (upd f i (-1)))]) rfl rfl rfl (show i < 32 * B by omega) (by omega) rfl ?_
      refine V.run 20 rfl ?_
      rw [nI_add]
      refine ih (i + 1) _ (by omega) (fun x hx => ?_)
      by_cases q : x = i
      · subst q; exact upd_s
      · rw [upd_n q]; exact hf x (by omega)
  exact loop (32 * B) 0 z0 (by omega) (fun x hx => absurd hx (Nat.not_lt_zero x))
theorem i_Walk2 (hB : B ≤ 16) {f1 f2 : Nat → Int32} : Tot none kX3_init [.ref 10, .int (nI (32 * B))] [.inr (4, [.ref 1, .null, .null, .null, .ref 7, .null, .int 0, .int 0]), .inr (2, [.ref 2, .ref 3, .ref 4, .ref 5, .ref 6]), .inl (false, 32 * B, f1), .inl (false, 32 * B, z0), .inl (true, 32 * B, z0), .inl (false, 32 * B, z0), .inl (false, 32 * B, z0), .inr (3, [.ref 8, .ref 9, .int 0, .int 0]), .inl (false, 16 * B, z0), .inl (false, 32 * B, f2), .inr (3, [.null, .null, .int 0, .int 0])] (fun o w' => o = none ∧ ∃ f, w' = [.inr (4, [.ref 1, .null, .null, .null, .ref 7, .null, .int 0, .int 0]), .inr (2, [.ref 2, .ref 3, .ref 4, .ref 5, .ref 6]), .inl (false, 32 * B, f1), .inl (false, 32 * B, z0), .inl (true, 32 * B, z0), .inl (false, 32 * B, z0), .inl (false, 32 * B, z0), .inr (3, [.ref 8, .ref 9, .int 0, .int 0]), .inl (false, 16 * B, z0), .inl (false, 32 * B, f2), .inr (3, [.ref 11, .ref 12, .int 0, .int 0]), .inl (false, 16 * B, z0), .inl (false, 32 * B, f)] ∧ ∀ x, x < 32 * B → f x = -1) := by
  refine eX3_init ?_
  refine V.run 20 rfl ?_
  refine V.oinit rfl x_oi_42 ?_
  refine V.run 20 rfl ?_
  refine V.idiv rfl (by decide) ?_
  rw [pk_div (by omega) (by omega) (by omega), show 32 * B / 2 = 16 * B by omega]
  refine V.mkI (1, 256) 11 [.inr (4, [.ref 1, .null, .null, .null, .ref 7, .null, .int 0, .int 0]), .inr (2, [.ref 2, .ref 3, .ref 4, .ref 5, .ref 6]), .inl (false, 32 * B, f1), .inl (false, 32 * B, z0), .inl (true, 32 * B, z0), .inl (false, 32 * B, z0), .inl (false, 32 * B, z0), .inr (3, [.ref 8, .ref 9, .int 0, .int 0]), .inl (false, 16 * B, z0), .inl (false, 32 * B, f2), .inr (3, [.null, .null, .int 0, .int 0]), .inl (false, 16 * B, z0)] rfl rfl (by omega) ⟨by decide, by show 0 + 16 * B ≤ 256; omega⟩ ?_
  refine V.putF (w' := [.inr (4, [.ref 1, .null, .null, .null, .ref 7, .null, .int 0, .int 0]), .inr (2, [.ref 2, .ref 3, .ref 4, .ref 5, .ref 6]), .inl (false, 32 * B, f1), .inl (false, 32 * B, z0), .inl (true, 32 * B, z0), .inl (false, 32 * B, z0), .inl (false, 32 * B, z0), .inr (3, [.ref 8, .ref 9, .int 0, .int 0]), .inl (false, 16 * B, z0), .inl (false, 32 * B, f2), .inr (3, [.ref 11, .null, .int 0, .int 0]), .inl (false, 16 * B, z0)]) rfl rfl rfl ?_
  refine V.run 20 rfl ?_
  refine V.mkI (2, 768) 12 [.inr (4, [.ref 1, .null, .null, .null, .ref 7, .null, .int 0, .int 0]), .inr (2, [.ref 2, .ref 3, .ref 4, .ref 5, .ref 6]), .inl (false, 32 * B, f1), .inl (false, 32 * B, z0), .inl (true, 32 * B, z0), .inl (false, 32 * B, z0), .inl (false, 32 * B, z0), .inr (3, [.ref 8, .ref 9, .int 0, .int 0]), .inl (false, 16 * B, z0), .inl (false, 32 * B, f2), .inr (3, [.ref 11, .null, .int 0, .int 0]), .inl (false, 16 * B, z0), .inl (false, 32 * B, z0)] rfl rfl (by omega) ⟨by decide, by show 256 + 32 * B ≤ 768; omega⟩ ?_
  refine V.putF (w' := [.inr (4, [.ref 1, .null, .null, .null, .ref 7, .null, .int 0, .int 0]), .inr (2, [.ref 2, .ref 3, .ref 4, .ref 5, .ref 6]), .inl (false, 32 * B, f1), .inl (false, 32 * B, z0), .inl (true, 32 * B, z0), .inl (false, 32 * B, z0), .inl (false, 32 * B, z0), .inr (3, [.ref 8, .ref 9, .int 0, .int 0]), .inl (false, 16 * B, z0), .inl (false, 32 * B, f2), .inr (3, [.ref 11, .ref 12, .int 0, .int 0]), .inl (false, 16 * B, z0), .inl (false, 32 * B, z0)]) rfl rfl rfl ?_
  refine V.run 20 rfl ?_
  have loop : ∀ (m i : Nat) (f : Nat → Int32), i + m = 32 * B → (∀ x, x < i → f x = -1) → V none 42 (fun o w' => o = none ∧ ∃ f, w' = [.inr (4, [.ref 1, .null, .null, .null, .ref 7, .null, .int 0, .int 0]), .inr (2, [.ref 2, .ref 3, .ref 4, .ref 5, .ref 6]), .inl (false, 32 * B, f1), .inl (false, 32 * B, z0), .inl (true, 32 * B, z0), .inl (false, 32 * B, z0), .inl (false, 32 * B, z0), .inr (3, [.ref 8, .ref 9, .int 0, .int 0]), .inl (false, 16 * B, z0), .inl (false, 32 * B, f2), .inr (3, [.ref 11, .ref 12, .int 0, .int 0]), .inl (false, 16 * B, z0), .inl (false, 32 * B, f)] ∧ ∀ x, x < 32 * B → f x = -1) (2, 768) 24 [(0, .ref 10), (1, .int (nI (32 * B))), (2, .int (nI i))] [.int (nI (32 * B)), .int (nI i)] [.inr (4, [.ref 1, .null, .null, .null, .ref 7, .null, .int 0, .int 0]), .inr (2, [.ref 2, .ref 3, .ref 4, .ref 5, .ref 6]), .inl (false, 32 * B, f1), .inl (false, 32 * B, z0), .inl (true, 32 * B, z0), .inl (false, 32 * B, z0), .inl (false, 32 * B, z0), .inr (3, [.ref 8, .ref 9, .int 0, .int 0]), .inl (false, 16 * B, z0), .inl (false, 32 * B, f2), .inr (3, [.ref 11, .ref 12, .int 0, .int 0]), .inl (false, 16 * B, z0), .inl (false, 32 * B, f)] := by
    intro m
    induction m with
    | zero =>
      intro i f hi hf
      refine V.brT rfl rfl (nI_le (by omega) (by omega)) ?_
      exact V.rv rfl ⟨rfl, f, rfl, fun x hx => hf x (by omega)⟩
    | succ m ih =>
      intro i f hi hf
      refine V.brF rfl rfl (nI_ge (show i < 32 * B by omega) (by omega)) ?_
      refine V.run 20 rfl ?_
      refine V.iast (w' := [.inr (4, [.ref 1, .null, .null, .null, .ref 7, .null, .int 0, .int 0]), .inr (2, [.ref 2, .ref 3, .ref 4, .ref 5, .ref 6]), .inl (false, 32 * B, f1), .inl (false, 32 * B, z0), .inl (true, 32 * B, z0), .inl (false, 32 * B, z0), .inl (false, 32 * B, z0), .inr (3, [.ref 8, .ref 9, .int 0, .int 0]), .inl (false, 16 * B, z0), .inl (false, 32 * B, f2), .inr (3, [.ref 11, .ref 12, .int 0, .int 0]), .inl (false, 16 * B, z0), .inl (false, 32 * B, (upd f i (-1)))]) rfl rfl rfl (show i < 32 * B by omega) (by omega) rfl ?_
      refine V.run 20 rfl ?_
      rw [nI_add]
      refine ih (i + 1) _ (by omega) (fun x hx => ?_)
      by_cases q : x = i
      · subst q; exact upd_s
      · rw [upd_n q]; exact hf x (by omega)
  exact loop (32 * B) 0 z0 (by omega) (fun x hx => absurd hx (Nat.not_lt_zero x))
theorem i_Line (hB : B ≤ 16) {f1 f2 f3 : Nat → Int32} : Tot none kX1_init [.ref 13, .int (nI (16 * B))] [.inr (4, [.ref 1, .null, .null, .null, .ref 7, .ref 10, .int 0, .int 0]), .inr (2, [.ref 2, .ref 3, .ref 4, .ref 5, .ref 6]), .inl (false, 32 * B, f1), .inl (false, 32 * B, z0), .inl (true, 32 * B, z0), .inl (false, 32 * B, z0), .inl (false, 32 * B, z0), .inr (3, [.ref 8, .ref 9, .int 0, .int 0]), .inl (false, 16 * B, z0), .inl (false, 32 * B, f2), .inr (3, [.ref 11, .ref 12, .int 0, .int 0]), .inl (false, 16 * B, z0), .inl (false, 32 * B, f3), .inr (1, [.null, .int 0])] (rN [.inr (4, [.ref 1, .null, .null, .null, .ref 7, .ref 10, .int 0, .int 0]), .inr (2, [.ref 2, .ref 3, .ref 4, .ref 5, .ref 6]), .inl (false, 32 * B, f1), .inl (false, 32 * B, z0), .inl (true, 32 * B, z0), .inl (false, 32 * B, z0), .inl (false, 32 * B, z0), .inr (3, [.ref 8, .ref 9, .int 0, .int 0]), .inl (false, 16 * B, z0), .inl (false, 32 * B, f2), .inr (3, [.ref 11, .ref 12, .int 0, .int 0]), .inl (false, 16 * B, z0), .inl (false, 32 * B, f3), .inr (1, [.ref 14, .int 0]), .inl (false, 16 * B, z0)]) := by
  refine eX1_init ?_
  refine V.run 20 rfl ?_
  refine V.oinit rfl x_oi_24 ?_
  refine V.run 20 rfl ?_
  refine V.mkI (1, 256) 14 [.inr (4, [.ref 1, .null, .null, .null, .ref 7, .ref 10, .int 0, .int 0]), .inr (2, [.ref 2, .ref 3, .ref 4, .ref 5, .ref 6]), .inl (false, 32 * B, f1), .inl (false, 32 * B, z0), .inl (true, 32 * B, z0), .inl (false, 32 * B, z0), .inl (false, 32 * B, z0), .inr (3, [.ref 8, .ref 9, .int 0, .int 0]), .inl (false, 16 * B, z0), .inl (false, 32 * B, f2), .inr (3, [.ref 11, .ref 12, .int 0, .int 0]), .inl (false, 16 * B, z0), .inl (false, 32 * B, f3), .inr (1, [.null, .int 0]), .inl (false, 16 * B, z0)] rfl rfl (by omega) ⟨by decide, by show 0 + 16 * B ≤ 256; omega⟩ ?_
  refine V.putF (w' := [.inr (4, [.ref 1, .null, .null, .null, .ref 7, .ref 10, .int 0, .int 0]), .inr (2, [.ref 2, .ref 3, .ref 4, .ref 5, .ref 6]), .inl (false, 32 * B, f1), .inl (false, 32 * B, z0), .inl (true, 32 * B, z0), .inl (false, 32 * B, z0), .inl (false, 32 * B, z0), .inr (3, [.ref 8, .ref 9, .int 0, .int 0]), .inl (false, 16 * B, z0), .inl (false, 32 * B, f2), .inr (3, [.ref 11, .ref 12, .int 0, .int 0]), .inl (false, 16 * B, z0), .inl (false, 32 * B, f3), .inr (1, [.ref 14, .int 0]), .inl (false, 16 * B, z0)]) rfl rfl rfl ?_
  exact V.rv rfl ⟨rfl, rfl⟩
theorem i_Blocks (hB : B ≤ 16) {f1 f2 f3 : Nat → Int32} : Tot none kX0_init [.ref 15, .int (nI B), .ref 1, .ref 7] [.inr (4, [.ref 1, .null, .ref 13, .null, .ref 7, .ref 10, .int 0, .int 0]), .inr (2, [.ref 2, .ref 3, .ref 4, .ref 5, .ref 6]), .inl (false, 32 * B, f1), .inl (false, 32 * B, z0), .inl (true, 32 * B, z0), .inl (false, 32 * B, z0), .inl (false, 32 * B, z0), .inr (3, [.ref 8, .ref 9, .int 0, .int 0]), .inl (false, 16 * B, z0), .inl (false, 32 * B, f2), .inr (3, [.ref 11, .ref 12, .int 0, .int 0]), .inl (false, 16 * B, z0), .inl (false, 32 * B, f3), .inr (1, [.ref 14, .int 0]), .inl (false, 16 * B, z0), .inr (0, [.null, .null, .null, .null, .int 0])] (fun o w' => o = none ∧ ∃ f, w' = [.inr (4, [.ref 1, .null, .ref 13, .null, .ref 7, .ref 10, .int 0, .int 0]), .inr (2, [.ref 2, .ref 3, .ref 4, .ref 5, .ref 6]), .inl (false, 32 * B, f1), .inl (false, 32 * B, z0), .inl (true, 32 * B, z0), .inl (false, 32 * B, z0), .inl (false, 32 * B, z0), .inr (3, [.ref 8, .ref 9, .int 0, .int 0]), .inl (false, 16 * B, z0), .inl (false, 32 * B, f2), .inr (3, [.ref 11, .ref 12, .int 0, .int 0]), .inl (false, 16 * B, z0), .inl (false, 32 * B, f3), .inr (1, [.ref 14, .int 0]), .inl (false, 16 * B, z0), .inr (0, [.ref 1, .ref 7, .ref 16, .ref 17, .int 0]), .inl (false, B, f), .inl (true, B, z0)] ∧ ∀ x, x < B → f x = -1) := by
  refine eX0_init ?_
  refine V.run 20 rfl ?_
  refine V.oinit rfl x_oi_0 ?_
  refine V.run 20 rfl ?_
  refine V.putF (w' := [.inr (4, [.ref 1, .null, .ref 13, .null, .ref 7, .ref 10, .int 0, .int 0]), .inr (2, [.ref 2, .ref 3, .ref 4, .ref 5, .ref 6]), .inl (false, 32 * B, f1), .inl (false, 32 * B, z0), .inl (true, 32 * B, z0), .inl (false, 32 * B, z0), .inl (false, 32 * B, z0), .inr (3, [.ref 8, .ref 9, .int 0, .int 0]), .inl (false, 16 * B, z0), .inl (false, 32 * B, f2), .inr (3, [.ref 11, .ref 12, .int 0, .int 0]), .inl (false, 16 * B, z0), .inl (false, 32 * B, f3), .inr (1, [.ref 14, .int 0]), .inl (false, 16 * B, z0), .inr (0, [.ref 1, .null, .null, .null, .int 0])]) rfl rfl rfl ?_
  refine V.run 20 rfl ?_
  refine V.putF (w' := [.inr (4, [.ref 1, .null, .ref 13, .null, .ref 7, .ref 10, .int 0, .int 0]), .inr (2, [.ref 2, .ref 3, .ref 4, .ref 5, .ref 6]), .inl (false, 32 * B, f1), .inl (false, 32 * B, z0), .inl (true, 32 * B, z0), .inl (false, 32 * B, z0), .inl (false, 32 * B, z0), .inr (3, [.ref 8, .ref 9, .int 0, .int 0]), .inl (false, 16 * B, z0), .inl (false, 32 * B, f2), .inr (3, [.ref 11, .ref 12, .int 0, .int 0]), .inl (false, 16 * B, z0), .inl (false, 32 * B, f3), .inr (1, [.ref 14, .int 0]), .inl (false, 16 * B, z0), .inr (0, [.ref 1, .ref 7, .null, .null, .int 0])]) rfl rfl rfl ?_
  refine V.run 20 rfl ?_
  refine V.mkI (1, 16) 16 [.inr (4, [.ref 1, .null, .ref 13, .null, .ref 7, .ref 10, .int 0, .int 0]), .inr (2, [.ref 2, .ref 3, .ref 4, .ref 5, .ref 6]), .inl (false, 32 * B, f1), .inl (false, 32 * B, z0), .inl (true, 32 * B, z0), .inl (false, 32 * B, z0), .inl (false, 32 * B, z0), .inr (3, [.ref 8, .ref 9, .int 0, .int 0]), .inl (false, 16 * B, z0), .inl (false, 32 * B, f2), .inr (3, [.ref 11, .ref 12, .int 0, .int 0]), .inl (false, 16 * B, z0), .inl (false, 32 * B, f3), .inr (1, [.ref 14, .int 0]), .inl (false, 16 * B, z0), .inr (0, [.ref 1, .ref 7, .null, .null, .int 0]), .inl (false, B, z0)] rfl rfl (by omega) ⟨by decide, by show 0 + B ≤ 16; omega⟩ ?_
  refine V.putF (w' := [.inr (4, [.ref 1, .null, .ref 13, .null, .ref 7, .ref 10, .int 0, .int 0]), .inr (2, [.ref 2, .ref 3, .ref 4, .ref 5, .ref 6]), .inl (false, 32 * B, f1), .inl (false, 32 * B, z0), .inl (true, 32 * B, z0), .inl (false, 32 * B, z0), .inl (false, 32 * B, z0), .inr (3, [.ref 8, .ref 9, .int 0, .int 0]), .inl (false, 16 * B, z0), .inl (false, 32 * B, f2), .inr (3, [.ref 11, .ref 12, .int 0, .int 0]), .inl (false, 16 * B, z0), .inl (false, 32 * B, f3), .inr (1, [.ref 14, .int 0]), .inl (false, 16 * B, z0), .inr (0, [.ref 1, .ref 7, .ref 16, .null, .int 0]), .inl (false, B, z0)]) rfl rfl rfl ?_
  refine V.run 20 rfl ?_
  refine V.mkZ (2, 32) 17 [.inr (4, [.ref 1, .null, .ref 13, .null, .ref 7, .ref 10, .int 0, .int 0]), .inr (2, [.ref 2, .ref 3, .ref 4, .ref 5, .ref 6]), .inl (false, 32 * B, f1), .inl (false, 32 * B, z0), .inl (true, 32 * B, z0), .inl (false, 32 * B, z0), .inl (false, 32 * B, z0), .inr (3, [.ref 8, .ref 9, .int 0, .int 0]), .inl (false, 16 * B, z0), .inl (false, 32 * B, f2), .inr (3, [.ref 11, .ref 12, .int 0, .int 0]), .inl (false, 16 * B, z0), .inl (false, 32 * B, f3), .inr (1, [.ref 14, .int 0]), .inl (false, 16 * B, z0), .inr (0, [.ref 1, .ref 7, .ref 16, .null, .int 0]), .inl (false, B, z0), .inl (true, B, z0)] rfl rfl (by omega) ⟨by decide, by show 16 + B ≤ 32; omega⟩ ?_
  refine V.putF (w' := [.inr (4, [.ref 1, .null, .ref 13, .null, .ref 7, .ref 10, .int 0, .int 0]), .inr (2, [.ref 2, .ref 3, .ref 4, .ref 5, .ref 6]), .inl (false, 32 * B, f1), .inl (false, 32 * B, z0), .inl (true, 32 * B, z0), .inl (false, 32 * B, z0), .inl (false, 32 * B, z0), .inr (3, [.ref 8, .ref 9, .int 0, .int 0]), .inl (false, 16 * B, z0), .inl (false, 32 * B, f2), .inr (3, [.ref 11, .ref 12, .int 0, .int 0]), .inl (false, 16 * B, z0), .inl (false, 32 * B, f3), .inr (1, [.ref 14, .int 0]), .inl (false, 16 * B, z0), .inr (0, [.ref 1, .ref 7, .ref 16, .ref 17, .int 0]), .inl (false, B, z0), .inl (true, B, z0)]) rfl rfl rfl ?_
  refine V.run 20 rfl ?_
  have loop : ∀ (m i : Nat) (f : Nat → Int32), i + m = B → (∀ x, x < i → f x = -1) → V none 0 (fun o w' => o = none ∧ ∃ f, w' = [.inr (4, [.ref 1, .null, .ref 13, .null, .ref 7, .ref 10, .int 0, .int 0]), .inr (2, [.ref 2, .ref 3, .ref 4, .ref 5, .ref 6]), .inl (false, 32 * B, f1), .inl (false, 32 * B, z0), .inl (true, 32 * B, z0), .inl (false, 32 * B, z0), .inl (false, 32 * B, z0), .inr (3, [.ref 8, .ref 9, .int 0, .int 0]), .inl (false, 16 * B, z0), .inl (false, 32 * B, f2), .inr (3, [.ref 11, .ref 12, .int 0, .int 0]), .inl (false, 16 * B, z0), .inl (false, 32 * B, f3), .inr (1, [.ref 14, .int 0]), .inl (false, 16 * B, z0), .inr (0, [.ref 1, .ref 7, .ref 16, .ref 17, .int 0]), .inl (false, B, f), .inl (true, B, z0)] ∧ ∀ x, x < B → f x = -1) (2, 32) 34 [(0, .ref 15), (1, .int (nI B)), (2, .ref 1), (3, .ref 7), (4, .int (nI i))] [.int (nI (B)), .int (nI i)] [.inr (4, [.ref 1, .null, .ref 13, .null, .ref 7, .ref 10, .int 0, .int 0]), .inr (2, [.ref 2, .ref 3, .ref 4, .ref 5, .ref 6]), .inl (false, 32 * B, f1), .inl (false, 32 * B, z0), .inl (true, 32 * B, z0), .inl (false, 32 * B, z0), .inl (false, 32 * B, z0), .inr (3, [.ref 8, .ref 9, .int 0, .int 0]), .inl (false, 16 * B, z0), .inl (false, 32 * B, f2), .inr (3, [.ref 11, .ref 12, .int 0, .int 0]), .inl (false, 16 * B, z0), .inl (false, 32 * B, f3), .inr (1, [.ref 14, .int 0]), .inl (false, 16 * B, z0), .inr (0, [.ref 1, .ref 7, .ref 16, .ref 17, .int 0]), .inl (false, B, f), .inl (true, B, z0)] := by
    intro m
    induction m with
    | zero =>
      intro i f hi hf
      refine V.brT rfl rfl (nI_le (by omega) (by omega)) ?_
      exact V.rv rfl ⟨rfl, f, rfl, fun x hx => hf x (by omega)⟩
    | succ m ih =>
      intro i f hi hf
      refine V.brF rfl rfl (nI_ge (show i < B by omega) (by omega)) ?_
      refine V.run 20 rfl ?_
      refine V.iast (w' := [.inr (4, [.ref 1, .null, .ref 13, .null, .ref 7, .ref 10, .int 0, .int 0]), .inr (2, [.ref 2, .ref 3, .ref 4, .ref 5, .ref 6]), .inl (false, 32 * B, f1), .inl (false, 32 * B, z0), .inl (true, 32 * B, z0), .inl (false, 32 * B, z0), .inl (false, 32 * B, z0), .inr (3, [.ref 8, .ref 9, .int 0, .int 0]), .inl (false, 16 * B, z0), .inl (false, 32 * B, f2), .inr (3, [.ref 11, .ref 12, .int 0, .int 0]), .inl (false, 16 * B, z0), .inl (false, 32 * B, f3), .inr (1, [.ref 14, .int 0]), .inl (false, 16 * B, z0), .inr (0, [.ref 1, .ref 7, .ref 16, .ref 17, .int 0]), .inl (false, B, (upd f i (-1))), .inl (true, B, z0)]) rfl rfl rfl (show i < B by omega) (by omega) rfl ?_
      refine V.run 20 rfl ?_
      rw [nI_add]
      refine ih (i + 1) _ (by omega) (fun x hx => ?_)
      by_cases q : x = i
      · subst q; exact upd_s
      · rw [upd_n q]; exact hf x (by omega)
  exact loop (B) 0 z0 (by omega) (fun x hx => absurd hx (Nat.not_lt_zero x))
theorem i_Lazy {z : Int32} (hz : (z < nI 1 ∧ B = 1) ∨ (nI 16 < z ∧ B = 16) ∨ (z = nI B ∧ 1 ≤ B ∧ B ≤ 16)) : Tot none kX4_init [.ref 0, .int z] [.inr (4, fN4)] (fun o w' => o = none ∧ ∃ f1 f2 f3 f4 f5, w' = [.inr (4, [.ref 1, .ref 15, .ref 13, .ref 18, .ref 7, .ref 10, .int 0, .int 0]), .inr (2, [.ref 2, .ref 3, .ref 4, .ref 5, .ref 6]), .inl (false, 32 * B, f1), .inl (false, 32 * B, z0), .inl (true, 32 * B, z0), .inl (false, 32 * B, z0), .inl (false, 32 * B, z0), .inr (3, [.ref 8, .ref 9, .int 0, .int 0]), .inl (false, 16 * B, z0), .inl (false, 32 * B, f2), .inr (3, [.ref 11, .ref 12, .int 0, .int 0]), .inl (false, 16 * B, z0), .inl (false, 32 * B, f3), .inr (1, [.ref 14, .int 0]), .inl (false, 16 * B, z0), .inr (0, [.ref 1, .ref 7, .ref 16, .ref 17, .int 0]), .inl (false, B, f4), .inl (true, B, z0), .inl (false, 16, f5)] ∧ (∀ x, x < 32 * B → f1 x = -1) ∧ (∀ x, x < 32 * B → f2 x = -1) ∧ (∀ x, x < 32 * B → f3 x = -1) ∧ (∀ x, x < B → f4 x = -1) ∧ ∀ x, x < 16 → f5 x = -1) := by
  have hB : B ≤ 16 := by rcases hz with h | h | h <;> omega
  have e0 : (if nI 1 < (if nI 16 < z then nI 16 else z) then (if nI 16 < z then nI 16 else z) else nI 1) = nI B := by
    rcases hz with ⟨h, rfl⟩ | ⟨h, rfl⟩ | ⟨rfl, h1, h2⟩
    · have h2 : ¬ nI 16 < z := fun q => i32_asy (i32_tr q h) (by decide)
      rw [if_neg h2, if_neg (i32_asy h)]
    · rw [if_pos h, if_pos (by decide)]
    · rw [if_neg (nI_nlt h2 (by omega))]
      by_cases q : B = 1
      · rw [q, if_neg (by decide)]
      · rw [if_pos (nI_lt (by omega) (by omega))]
  refine eX4_init ?_
  refine V.run 20 rfl ?_
  refine V.oinit rfl x_oi_50 ?_
  refine V.run 20 rfl ?_
  refine V.mmin rfl rfl ?_
  refine V.mmax rfl rfl ?_
  rw [e0]
  refine V.run 20 rfl ?_
  rw [pk_mul, Nat.mul_comm B 32]
  refine V.mkO (1, 5) 1 [.null, .null, .null, .null, .null] [.inr (4, [.null, .null, .null, .null, .null, .null, .int 0, .int 0]), .inr (2, [.null, .null, .null, .null, .null])] rfl ?_
  refine V.run 20 rfl ?_
  refine V.ci rfl (i_Store hB) rfl ?_
  rintro _ _ ⟨rfl, f1, rfl, h1⟩
  refine V.putF (w' := [.inr (4, [.ref 1, .null, .null, .null, .null, .null, .int 0, .int 0]), .inr (2, [.ref 2, .ref 3, .ref 4, .ref 5, .ref 6]), .inl (false, 32 * B, f1), .inl (false, 32 * B, z0), .inl (true, 32 * B, z0), .inl (false, 32 * B, z0), .inl (false, 32 * B, z0)]) rfl rfl rfl ?_
  refine V.run 20 rfl ?_
  refine V.mkO (7, 2569) 7 [.null, .null, .int 0, .int 0] [.inr (4, [.ref 1, .null, .null, .null, .null, .null, .int 0, .int 0]), .inr (2, [.ref 2, .ref 3, .ref 4, .ref 5, .ref 6]), .inl (false, 32 * B, f1), .inl (false, 32 * B, z0), .inl (true, 32 * B, z0), .inl (false, 32 * B, z0), .inl (false, 32 * B, z0), .inr (3, [.null, .null, .int 0, .int 0])] rfl ?_
  refine V.run 20 rfl ?_
  refine V.ci rfl (i_Walk1 hB) rfl ?_
  rintro _ _ ⟨rfl, f2, rfl, h2⟩
  refine V.putF (w' := [.inr (4, [.ref 1, .null, .null, .null, .ref 7, .null, .int 0, .int 0]), .inr (2, [.ref 2, .ref 3, .ref 4, .ref 5, .ref 6]), .inl (false, 32 * B, f1), .inl (false, 32 * B, z0), .inl (true, 32 * B, z0), .inl (false, 32 * B, z0), .inl (false, 32 * B, z0), .inr (3, [.ref 8, .ref 9, .int 0, .int 0]), .inl (false, 16 * B, z0), .inl (false, 32 * B, f2)]) rfl rfl rfl ?_
  refine V.run 20 rfl ?_
  refine V.mkO (10, 3341) 10 [.null, .null, .int 0, .int 0] [.inr (4, [.ref 1, .null, .null, .null, .ref 7, .null, .int 0, .int 0]), .inr (2, [.ref 2, .ref 3, .ref 4, .ref 5, .ref 6]), .inl (false, 32 * B, f1), .inl (false, 32 * B, z0), .inl (true, 32 * B, z0), .inl (false, 32 * B, z0), .inl (false, 32 * B, z0), .inr (3, [.ref 8, .ref 9, .int 0, .int 0]), .inl (false, 16 * B, z0), .inl (false, 32 * B, f2), .inr (3, [.null, .null, .int 0, .int 0])] rfl ?_
  refine V.run 20 rfl ?_
  refine V.ci rfl (i_Walk2 hB) rfl ?_
  rintro _ _ ⟨rfl, f3, rfl, h3⟩
  refine V.putF (w' := [.inr (4, [.ref 1, .null, .null, .null, .ref 7, .ref 10, .int 0, .int 0]), .inr (2, [.ref 2, .ref 3, .ref 4, .ref 5, .ref 6]), .inl (false, 32 * B, f1), .inl (false, 32 * B, z0), .inl (true, 32 * B, z0), .inl (false, 32 * B, z0), .inl (false, 32 * B, z0), .inr (3, [.ref 8, .ref 9, .int 0, .int 0]), .inl (false, 16 * B, z0), .inl (false, 32 * B, f2), .inr (3, [.ref 11, .ref 12, .int 0, .int 0]), .inl (false, 16 * B, z0), .inl (false, 32 * B, f3)]) rfl rfl rfl ?_
  refine V.run 20 rfl ?_
  refine V.mkO (13, 4111) 13 [.null, .int 0] [.inr (4, [.ref 1, .null, .null, .null, .ref 7, .ref 10, .int 0, .int 0]), .inr (2, [.ref 2, .ref 3, .ref 4, .ref 5, .ref 6]), .inl (false, 32 * B, f1), .inl (false, 32 * B, z0), .inl (true, 32 * B, z0), .inl (false, 32 * B, z0), .inl (false, 32 * B, z0), .inr (3, [.ref 8, .ref 9, .int 0, .int 0]), .inl (false, 16 * B, z0), .inl (false, 32 * B, f2), .inr (3, [.ref 11, .ref 12, .int 0, .int 0]), .inl (false, 16 * B, z0), .inl (false, 32 * B, f3), .inr (1, [.null, .int 0])] rfl ?_
  refine V.run 20 rfl ?_
  refine V.idiv rfl (by decide) ?_
  rw [pk_div (by omega) (by omega) (by omega), show 32 * B / 2 = 16 * B by omega]
  refine V.ci rfl (i_Line hB) rfl ?_
  rintro _ _ ⟨rfl, rfl⟩
  refine V.putF (w' := [.inr (4, [.ref 1, .null, .ref 13, .null, .ref 7, .ref 10, .int 0, .int 0]), .inr (2, [.ref 2, .ref 3, .ref 4, .ref 5, .ref 6]), .inl (false, 32 * B, f1), .inl (false, 32 * B, z0), .inl (true, 32 * B, z0), .inl (false, 32 * B, z0), .inl (false, 32 * B, z0), .inr (3, [.ref 8, .ref 9, .int 0, .int 0]), .inl (false, 16 * B, z0), .inl (false, 32 * B, f2), .inr (3, [.ref 11, .ref 12, .int 0, .int 0]), .inl (false, 16 * B, z0), .inl (false, 32 * B, f3), .inr (1, [.ref 14, .int 0]), .inl (false, 16 * B, z0)]) rfl rfl rfl ?_
  refine V.run 20 rfl ?_
  refine V.mkO (15, 4372) 15 [.null, .null, .null, .null, .int 0] [.inr (4, [.ref 1, .null, .ref 13, .null, .ref 7, .ref 10, .int 0, .int 0]), .inr (2, [.ref 2, .ref 3, .ref 4, .ref 5, .ref 6]), .inl (false, 32 * B, f1), .inl (false, 32 * B, z0), .inl (true, 32 * B, z0), .inl (false, 32 * B, z0), .inl (false, 32 * B, z0), .inr (3, [.ref 8, .ref 9, .int 0, .int 0]), .inl (false, 16 * B, z0), .inl (false, 32 * B, f2), .inr (3, [.ref 11, .ref 12, .int 0, .int 0]), .inl (false, 16 * B, z0), .inl (false, 32 * B, f3), .inr (1, [.ref 14, .int 0]), .inl (false, 16 * B, z0), .inr (0, [.null, .null, .null, .null, .int 0])] rfl ?_
  refine V.run 20 rfl ?_
  refine V.ci rfl (i_Blocks hB) rfl ?_
  rintro _ _ ⟨rfl, f4, rfl, h4⟩
  refine V.putF (w' := [.inr (4, [.ref 1, .ref 15, .ref 13, .null, .ref 7, .ref 10, .int 0, .int 0]), .inr (2, [.ref 2, .ref 3, .ref 4, .ref 5, .ref 6]), .inl (false, 32 * B, f1), .inl (false, 32 * B, z0), .inl (true, 32 * B, z0), .inl (false, 32 * B, z0), .inl (false, 32 * B, z0), .inr (3, [.ref 8, .ref 9, .int 0, .int 0]), .inl (false, 16 * B, z0), .inl (false, 32 * B, f2), .inr (3, [.ref 11, .ref 12, .int 0, .int 0]), .inl (false, 16 * B, z0), .inl (false, 32 * B, f3), .inr (1, [.ref 14, .int 0]), .inl (false, 16 * B, z0), .inr (0, [.ref 1, .ref 7, .ref 16, .ref 17, .int 0]), .inl (false, B, f4), .inl (true, B, z0)]) rfl rfl rfl ?_
  refine V.run 20 rfl ?_
  refine V.mkI (18, 4420) 18 [.inr (4, [.ref 1, .ref 15, .ref 13, .null, .ref 7, .ref 10, .int 0, .int 0]), .inr (2, [.ref 2, .ref 3, .ref 4, .ref 5, .ref 6]), .inl (false, 32 * B, f1), .inl (false, 32 * B, z0), .inl (true, 32 * B, z0), .inl (false, 32 * B, z0), .inl (false, 32 * B, z0), .inr (3, [.ref 8, .ref 9, .int 0, .int 0]), .inl (false, 16 * B, z0), .inl (false, 32 * B, f2), .inr (3, [.ref 11, .ref 12, .int 0, .int 0]), .inl (false, 16 * B, z0), .inl (false, 32 * B, f3), .inr (1, [.ref 14, .int 0]), .inl (false, 16 * B, z0), .inr (0, [.ref 1, .ref 7, .ref 16, .ref 17, .int 0]), .inl (false, B, f4), .inl (true, B, z0), .inl (false, 16, z0)] rfl (show _ = nI 16 from rfl) (by omega) ⟨by decide, by decide⟩ ?_
  refine V.putF (w' := [.inr (4, [.ref 1, .ref 15, .ref 13, .ref 18, .ref 7, .ref 10, .int 0, .int 0]), .inr (2, [.ref 2, .ref 3, .ref 4, .ref 5, .ref 6]), .inl (false, 32 * B, f1), .inl (false, 32 * B, z0), .inl (true, 32 * B, z0), .inl (false, 32 * B, z0), .inl (false, 32 * B, z0), .inr (3, [.ref 8, .ref 9, .int 0, .int 0]), .inl (false, 16 * B, z0), .inl (false, 32 * B, f2), .inr (3, [.ref 11, .ref 12, .int 0, .int 0]), .inl (false, 16 * B, z0), .inl (false, 32 * B, f3), .inr (1, [.ref 14, .int 0]), .inl (false, 16 * B, z0), .inr (0, [.ref 1, .ref 7, .ref 16, .ref 17, .int 0]), .inl (false, B, f4), .inl (true, B, z0), .inl (false, 16, z0)]) rfl rfl rfl ?_
  refine V.run 20 rfl ?_
  have loop : ∀ (m i : Nat) (f : Nat → Int32), i + m = 16 → (∀ x, x < i → f x = -1) → V none 50 (fun o w' => o = none ∧ ∃ f1 f2 f3 f4 f5, w' = [.inr (4, [.ref 1, .ref 15, .ref 13, .ref 18, .ref 7, .ref 10, .int 0, .int 0]), .inr (2, [.ref 2, .ref 3, .ref 4, .ref 5, .ref 6]), .inl (false, 32 * B, f1), .inl (false, 32 * B, z0), .inl (true, 32 * B, z0), .inl (false, 32 * B, z0), .inl (false, 32 * B, z0), .inr (3, [.ref 8, .ref 9, .int 0, .int 0]), .inl (false, 16 * B, z0), .inl (false, 32 * B, f2), .inr (3, [.ref 11, .ref 12, .int 0, .int 0]), .inl (false, 16 * B, z0), .inl (false, 32 * B, f3), .inr (1, [.ref 14, .int 0]), .inl (false, 16 * B, z0), .inr (0, [.ref 1, .ref 7, .ref 16, .ref 17, .int 0]), .inl (false, B, f4), .inl (true, B, z0), .inl (false, 16, f5)] ∧ (∀ x, x < 32 * B → f1 x = -1) ∧ (∀ x, x < 32 * B → f2 x = -1) ∧ (∀ x, x < 32 * B → f3 x = -1) ∧ (∀ x, x < B → f4 x = -1) ∧ ∀ x, x < 16 → f5 x = -1) (18, 4420) 105 [(0, .ref 0), (1, .int z), (2, .int (nI B)), (3, .int (nI (32 * B))), (4, .int (nI i))] [.int (nI 16), .int (nI i)] [.inr (4, [.ref 1, .ref 15, .ref 13, .ref 18, .ref 7, .ref 10, .int 0, .int 0]), .inr (2, [.ref 2, .ref 3, .ref 4, .ref 5, .ref 6]), .inl (false, 32 * B, f1), .inl (false, 32 * B, z0), .inl (true, 32 * B, z0), .inl (false, 32 * B, z0), .inl (false, 32 * B, z0), .inr (3, [.ref 8, .ref 9, .int 0, .int 0]), .inl (false, 16 * B, z0), .inl (false, 32 * B, f2), .inr (3, [.ref 11, .ref 12, .int 0, .int 0]), .inl (false, 16 * B, z0), .inl (false, 32 * B, f3), .inr (1, [.ref 14, .int 0]), .inl (false, 16 * B, z0), .inr (0, [.ref 1, .ref 7, .ref 16, .ref 17, .int 0]), .inl (false, B, f4), .inl (true, B, z0), .inl (false, 16, f)] := by
    intro m
    induction m with
    | zero =>
      intro i f hi hf
      refine V.brT rfl rfl (nI_le (by omega) (by omega)) ?_
      exact V.rv rfl ⟨rfl, f1, f2, f3, f4, f, rfl, h1, h2, h3, h4, fun x hx => hf x (by omega)⟩
    | succ m ih =>
      intro i f hi hf
      refine V.brF rfl rfl (nI_ge (show i < 16 by omega) (by omega)) ?_
      refine V.run 20 rfl ?_
      refine V.iast (w' := [.inr (4, [.ref 1, .ref 15, .ref 13, .ref 18, .ref 7, .ref 10, .int 0, .int 0]), .inr (2, [.ref 2, .ref 3, .ref 4, .ref 5, .ref 6]), .inl (false, 32 * B, f1), .inl (false, 32 * B, z0), .inl (true, 32 * B, z0), .inl (false, 32 * B, z0), .inl (false, 32 * B, z0), .inr (3, [.ref 8, .ref 9, .int 0, .int 0]), .inl (false, 16 * B, z0), .inl (false, 32 * B, f2), .inr (3, [.ref 11, .ref 12, .int 0, .int 0]), .inl (false, 16 * B, z0), .inl (false, 32 * B, f3), .inr (1, [.ref 14, .int 0]), .inl (false, 16 * B, z0), .inr (0, [.ref 1, .ref 7, .ref 16, .ref 17, .int 0]), .inl (false, B, f4), .inl (true, B, z0), .inl (false, 16, (upd f i (-1)))]) rfl rfl rfl (show i < 16 by omega) (by omega) rfl ?_
      refine V.run 20 rfl ?_
      rw [nI_add]
      refine ih (i + 1) _ (by omega) (fun x hx => ?_)
      by_cases q : x = i
      · subst q; exact upd_s
      · rw [upd_n q]; exact hf x (by omega)
  exact loop 16 0 z0 (by omega) (fun x hx => absurd hx (Nat.not_lt_zero x))
end CC
end
section
/-- the reference's cells -/
def mC (B : Nat) (a : Nat → Nat → Int32) (v : Nat → Int32) : xW :=
  .inr (5, [.int (v 0), .int (nI B), .int (v 1), .int (v 2), .int (v 3), .ref 20, .ref 21, .ref 22, .ref 23, .ref 24, .ref 25, .ref 26, .ref 27, .ref 28, .int (v 4), .ref 29, .int (v 5), .ref 30, .ref 31]) ::
  .inl (false, 16, a 0) :: .inl (true, 16, a 1) :: .inl (false, 512, a 2) :: .inl (false, 512, a 3) :: .inl (true, 512, a 4) :: .inl (true, 512, a 5) :: .inl (false, 512, a 6) :: .inl (false, 512, a 7) :: .inl (false, 16, a 8) :: .inl (false, 512, a 9) :: .inl (false, 512, a 10) :: .inl (false, 512, a 11) :: []
/-- the class's cells, one by one -/
def cC (B : Nat) (a : Nat → Nat → Int32) (v : Nat → Int32) (i : Nat) : xC := (wC B a v []).getD i (.inr (0, []))
theorem wCM (B : Nat) (a : Nat → Nat → Int32) (v : Nat → Int32) (am : Nat → Nat → Int32) (vm : Nat → Int32) : wM (cC B a v) B am vm = wC B a v (mC B am vm) := rfl
section CM5
variable {B : Nat} {a : Nat → Nat → Int32} {v : Nat → Int32}
theorem i_Model {z : Int32} (hz : (z < nI 1 ∧ B = 1) ∨ (nI 16 < z ∧ B = 16) ∨ (z = nI B ∧ 1 ≤ B ∧ B ≤ 16)) : Tot none kX5_init [.ref 19, .int z] (wC B a v [.inr (5, [.int 0, .int 0, .int 0, .int 0, .int 0, .null, .null, .null, .null, .null, .null, .null, .null, .null, .int 0, .null, .int 0, .null, .null])]) (fun o w' => o = none ∧ ∃ am vm, w' = wC B a v (mC B am vm) ∧ (∀ x, x < 512 → am 2 x = -1) ∧ (∀ x, x < 16 → am 0 x = -1) ∧ (∀ x, x < 16 → am 8 x = -1) ∧ (∀ i, i ≠ 0 → i ≠ 2 → i ≠ 8 → am i = z0) ∧ ∀ i, vm i = 0) := by
  have hB : B ≤ 16 := by rcases hz with h | h | h <;> omega
  refine eX5_init ?_
  refine V.run 20 rfl ?_
  refine V.oinit rfl x_oi_85 ?_
  refine V.run 20 rfl ?_
  refine V.mkI (1, 16) 20 (wC B a v [.inr (5, [.int 0, .int 0, .int 0, .int 0, .int 0, .null, .null, .null, .null, .null, .null, .null, .null, .null, .int 0, .null, .int 0, .null, .null]), .inl (false, 16, z0)]) rfl (show _ = nI 16 from rfl) (by omega) ⟨by decide, by decide⟩ ?_
  refine V.putF (w' := (wC B a v [.inr (5, [.int 0, .int 0, .int 0, .int 0, .int 0, .ref 20, .null, .null, .null, .null, .null, .null, .null, .null, .int 0, .null, .int 0, .null, .null]), .inl (false, 16, z0)])) rfl rfl rfl ?_
  refine V.run 20 rfl ?_
  refine V.mkZ (2, 32) 21 (wC B a v [.inr (5, [.int 0, .int 0, .int 0, .int 0, .int 0, .ref 20, .null, .null, .null, .null, .null, .null, .null, .null, .int 0, .null, .int 0, .null, .null]), .inl (false, 16, z0), .inl (true, 16, z0)]) rfl (show _ = nI 16 from rfl) (by omega) ⟨by decide, by decide⟩ ?_
  refine V.putF (w' := (wC B a v [.inr (5, [.int 0, .int 0, .int 0, .int 0, .int 0, .ref 20, .ref 21, .null, .null, .null, .null, .null, .null, .null, .int 0, .null, .int 0, .null, .null]), .inl (false, 16, z0), .inl (true, 16, z0)])) rfl rfl rfl ?_
  refine V.run 20 rfl ?_
  refine V.mkI (3, 544) 22 (wC B a v [.inr (5, [.int 0, .int 0, .int 0, .int 0, .int 0, .ref 20, .ref 21, .null, .null, .null, .null, .null, .null, .null, .int 0, .null, .int 0, .null, .null]), .inl (false, 16, z0), .inl (true, 16, z0), .inl (false, 512, z0)]) rfl (show _ = nI 512 from rfl) (by omega) ⟨by decide, by decide⟩ ?_
  refine V.putF (w' := (wC B a v [.inr (5, [.int 0, .int 0, .int 0, .int 0, .int 0, .ref 20, .ref 21, .ref 22, .null, .null, .null, .null, .null, .null, .int 0, .null, .int 0, .null, .null]), .inl (false, 16, z0), .inl (true, 16, z0), .inl (false, 512, z0)])) rfl rfl rfl ?_
  refine V.run 20 rfl ?_
  refine V.mkI (4, 1056) 23 (wC B a v [.inr (5, [.int 0, .int 0, .int 0, .int 0, .int 0, .ref 20, .ref 21, .ref 22, .null, .null, .null, .null, .null, .null, .int 0, .null, .int 0, .null, .null]), .inl (false, 16, z0), .inl (true, 16, z0), .inl (false, 512, z0), .inl (false, 512, z0)]) rfl (show _ = nI 512 from rfl) (by omega) ⟨by decide, by decide⟩ ?_
  refine V.putF (w' := (wC B a v [.inr (5, [.int 0, .int 0, .int 0, .int 0, .int 0, .ref 20, .ref 21, .ref 22, .ref 23, .null, .null, .null, .null, .null, .int 0, .null, .int 0, .null, .null]), .inl (false, 16, z0), .inl (true, 16, z0), .inl (false, 512, z0), .inl (false, 512, z0)])) rfl rfl rfl ?_
  refine V.run 20 rfl ?_
  refine V.mkZ (5, 1568) 24 (wC B a v [.inr (5, [.int 0, .int 0, .int 0, .int 0, .int 0, .ref 20, .ref 21, .ref 22, .ref 23, .null, .null, .null, .null, .null, .int 0, .null, .int 0, .null, .null]), .inl (false, 16, z0), .inl (true, 16, z0), .inl (false, 512, z0), .inl (false, 512, z0), .inl (true, 512, z0)]) rfl (show _ = nI 512 from rfl) (by omega) ⟨by decide, by decide⟩ ?_
  refine V.putF (w' := (wC B a v [.inr (5, [.int 0, .int 0, .int 0, .int 0, .int 0, .ref 20, .ref 21, .ref 22, .ref 23, .ref 24, .null, .null, .null, .null, .int 0, .null, .int 0, .null, .null]), .inl (false, 16, z0), .inl (true, 16, z0), .inl (false, 512, z0), .inl (false, 512, z0), .inl (true, 512, z0)])) rfl rfl rfl ?_
  refine V.run 20 rfl ?_
  refine V.mkZ (6, 2080) 25 (wC B a v [.inr (5, [.int 0, .int 0, .int 0, .int 0, .int 0, .ref 20, .ref 21, .ref 22, .ref 23, .ref 24, .null, .null, .null, .null, .int 0, .null, .int 0, .null, .null]), .inl (false, 16, z0), .inl (true, 16, z0), .inl (false, 512, z0), .inl (false, 512, z0), .inl (true, 512, z0), .inl (true, 512, z0)]) rfl (show _ = nI 512 from rfl) (by omega) ⟨by decide, by decide⟩ ?_
  refine V.putF (w' := (wC B a v [.inr (5, [.int 0, .int 0, .int 0, .int 0, .int 0, .ref 20, .ref 21, .ref 22, .ref 23, .ref 24, .ref 25, .null, .null, .null, .int 0, .null, .int 0, .null, .null]), .inl (false, 16, z0), .inl (true, 16, z0), .inl (false, 512, z0), .inl (false, 512, z0), .inl (true, 512, z0), .inl (true, 512, z0)])) rfl rfl rfl ?_
  refine V.run 20 rfl ?_
  refine V.mkI (7, 2592) 26 (wC B a v [.inr (5, [.int 0, .int 0, .int 0, .int 0, .int 0, .ref 20, .ref 21, .ref 22, .ref 23, .ref 24, .ref 25, .null, .null, .null, .int 0, .null, .int 0, .null, .null]), .inl (false, 16, z0), .inl (true, 16, z0), .inl (false, 512, z0), .inl (false, 512, z0), .inl (true, 512, z0), .inl (true, 512, z0), .inl (false, 512, z0)]) rfl (show _ = nI 512 from rfl) (by omega) ⟨by decide, by decide⟩ ?_
  refine V.putF (w' := (wC B a v [.inr (5, [.int 0, .int 0, .int 0, .int 0, .int 0, .ref 20, .ref 21, .ref 22, .ref 23, .ref 24, .ref 25, .ref 26, .null, .null, .int 0, .null, .int 0, .null, .null]), .inl (false, 16, z0), .inl (true, 16, z0), .inl (false, 512, z0), .inl (false, 512, z0), .inl (true, 512, z0), .inl (true, 512, z0), .inl (false, 512, z0)])) rfl rfl rfl ?_
  refine V.run 20 rfl ?_
  refine V.mkI (8, 3104) 27 (wC B a v [.inr (5, [.int 0, .int 0, .int 0, .int 0, .int 0, .ref 20, .ref 21, .ref 22, .ref 23, .ref 24, .ref 25, .ref 26, .null, .null, .int 0, .null, .int 0, .null, .null]), .inl (false, 16, z0), .inl (true, 16, z0), .inl (false, 512, z0), .inl (false, 512, z0), .inl (true, 512, z0), .inl (true, 512, z0), .inl (false, 512, z0), .inl (false, 512, z0)]) rfl (show _ = nI 512 from rfl) (by omega) ⟨by decide, by decide⟩ ?_
  refine V.putF (w' := (wC B a v [.inr (5, [.int 0, .int 0, .int 0, .int 0, .int 0, .ref 20, .ref 21, .ref 22, .ref 23, .ref 24, .ref 25, .ref 26, .ref 27, .null, .int 0, .null, .int 0, .null, .null]), .inl (false, 16, z0), .inl (true, 16, z0), .inl (false, 512, z0), .inl (false, 512, z0), .inl (true, 512, z0), .inl (true, 512, z0), .inl (false, 512, z0), .inl (false, 512, z0)])) rfl rfl rfl ?_
  refine V.run 20 rfl ?_
  refine V.mkI (9, 3120) 28 (wC B a v [.inr (5, [.int 0, .int 0, .int 0, .int 0, .int 0, .ref 20, .ref 21, .ref 22, .ref 23, .ref 24, .ref 25, .ref 26, .ref 27, .null, .int 0, .null, .int 0, .null, .null]), .inl (false, 16, z0), .inl (true, 16, z0), .inl (false, 512, z0), .inl (false, 512, z0), .inl (true, 512, z0), .inl (true, 512, z0), .inl (false, 512, z0), .inl (false, 512, z0), .inl (false, 16, z0)]) rfl (show _ = nI 16 from rfl) (by omega) ⟨by decide, by decide⟩ ?_
  refine V.putF (w' := (wC B a v [.inr (5, [.int 0, .int 0, .int 0, .int 0, .int 0, .ref 20, .ref 21, .ref 22, .ref 23, .ref 24, .ref 25, .ref 26, .ref 27, .ref 28, .int 0, .null, .int 0, .null, .null]), .inl (false, 16, z0), .inl (true, 16, z0), .inl (false, 512, z0), .inl (false, 512, z0), .inl (true, 512, z0), .inl (true, 512, z0), .inl (false, 512, z0), .inl (false, 512, z0), .inl (false, 16, z0)])) rfl rfl rfl ?_
  refine V.run 20 rfl ?_
  refine V.mkI (10, 3632) 29 (wC B a v [.inr (5, [.int 0, .int 0, .int 0, .int 0, .int 0, .ref 20, .ref 21, .ref 22, .ref 23, .ref 24, .ref 25, .ref 26, .ref 27, .ref 28, .int 0, .null, .int 0, .null, .null]), .inl (false, 16, z0), .inl (true, 16, z0), .inl (false, 512, z0), .inl (false, 512, z0), .inl (true, 512, z0), .inl (true, 512, z0), .inl (false, 512, z0), .inl (false, 512, z0), .inl (false, 16, z0), .inl (false, 512, z0)]) rfl (show _ = nI 512 from rfl) (by omega) ⟨by decide, by decide⟩ ?_
  refine V.putF (w' := (wC B a v [.inr (5, [.int 0, .int 0, .int 0, .int 0, .int 0, .ref 20, .ref 21, .ref 22, .ref 23, .ref 24, .ref 25, .ref 26, .ref 27, .ref 28, .int 0, .ref 29, .int 0, .null, .null]), .inl (false, 16, z0), .inl (true, 16, z0), .inl (false, 512, z0), .inl (false, 512, z0), .inl (true, 512, z0), .inl (true, 512, z0), .inl (false, 512, z0), .inl (false, 512, z0), .inl (false, 16, z0), .inl (false, 512, z0)])) rfl rfl rfl ?_
  refine V.run 20 rfl ?_
  refine V.mkI (11, 4144) 30 (wC B a v [.inr (5, [.int 0, .int 0, .int 0, .int 0, .int 0, .ref 20, .ref 21, .ref 22, .ref 23, .ref 24, .ref 25, .ref 26, .ref 27, .ref 28, .int 0, .ref 29, .int 0, .null, .null]), .inl (false, 16, z0), .inl (true, 16, z0), .inl (false, 512, z0), .inl (false, 512, z0), .inl (true, 512, z0), .inl (true, 512, z0), .inl (false, 512, z0), .inl (false, 512, z0), .inl (false, 16, z0), .inl (false, 512, z0), .inl (false, 512, z0)]) rfl (show _ = nI 512 from rfl) (by omega) ⟨by decide, by decide⟩ ?_
  refine V.putF (w' := (wC B a v [.inr (5, [.int 0, .int 0, .int 0, .int 0, .int 0, .ref 20, .ref 21, .ref 22, .ref 23, .ref 24, .ref 25, .ref 26, .ref 27, .ref 28, .int 0, .ref 29, .int 0, .ref 30, .null]), .inl (false, 16, z0), .inl (true, 16, z0), .inl (false, 512, z0), .inl (false, 512, z0), .inl (true, 512, z0), .inl (true, 512, z0), .inl (false, 512, z0), .inl (false, 512, z0), .inl (false, 16, z0), .inl (false, 512, z0), .inl (false, 512, z0)])) rfl rfl rfl ?_
  refine V.run 20 rfl ?_
  refine V.mkI (12, 4656) 31 (wC B a v [.inr (5, [.int 0, .int 0, .int 0, .int 0, .int 0, .ref 20, .ref 21, .ref 22, .ref 23, .ref 24, .ref 25, .ref 26, .ref 27, .ref 28, .int 0, .ref 29, .int 0, .ref 30, .null]), .inl (false, 16, z0), .inl (true, 16, z0), .inl (false, 512, z0), .inl (false, 512, z0), .inl (true, 512, z0), .inl (true, 512, z0), .inl (false, 512, z0), .inl (false, 512, z0), .inl (false, 16, z0), .inl (false, 512, z0), .inl (false, 512, z0), .inl (false, 512, z0)]) rfl (show _ = nI 512 from rfl) (by omega) ⟨by decide, by decide⟩ ?_
  refine V.putF (w' := (wC B a v [.inr (5, [.int 0, .int 0, .int 0, .int 0, .int 0, .ref 20, .ref 21, .ref 22, .ref 23, .ref 24, .ref 25, .ref 26, .ref 27, .ref 28, .int 0, .ref 29, .int 0, .ref 30, .ref 31]), .inl (false, 16, z0), .inl (true, 16, z0), .inl (false, 512, z0), .inl (false, 512, z0), .inl (true, 512, z0), .inl (true, 512, z0), .inl (false, 512, z0), .inl (false, 512, z0), .inl (false, 16, z0), .inl (false, 512, z0), .inl (false, 512, z0), .inl (false, 512, z0)])) rfl rfl rfl ?_
  refine V.run 20 rfl ?_
  have loop2 : ∀ {f g : Nat → Int32}, (∀ x, x < 16 → f x = -1) → (∀ x, x < 16 → g x = -1) → ∀ (m i : Nat) (h : Nat → Int32), i + m = 512 → (∀ x, x < i → h x = -1) → V none 85 (fun o w' => o = none ∧ ∃ am vm, w' = wC B a v (mC B am vm) ∧ (∀ x, x < 512 → am 2 x = -1) ∧ (∀ x, x < 16 → am 0 x = -1) ∧ (∀ x, x < 16 → am 8 x = -1) ∧ (∀ i, i ≠ 0 → i ≠ 2 → i ≠ 8 → am i = z0) ∧ ∀ i, vm i = 0) (12, 4656) 168 [(0, .ref 19), (1, .int z), (2, .int (nI i))] [.int (nI 512), .int (nI i)] (wC B a v [.inr (5, [.int 0, .int (nI B), .int 0, .int 0, .int 0, .ref 20, .ref 21, .ref 22, .ref 23, .ref 24, .ref 25, .ref 26, .ref 27, .ref 28, .int 0, .ref 29, .int 0, .ref 30, .ref 31]), .inl (false, 16, f), .inl (true, 16, z0), .inl (false, 512, h), .inl (false, 512, z0), .inl (true, 512, z0), .inl (true, 512, z0), .inl (false, 512, z0), .inl (false, 512, z0), .inl (false, 16, g), .inl (false, 512, z0), .inl (false, 512, z0), .inl (false, 512, z0)]) := by
    intro f g hf hg m
    induction m with
    | zero =>
      intro i h hi hh
      refine V.brT rfl rfl (nI_le (by omega) (by omega)) ?_
      exact V.rv rfl ⟨rfl, setA (setA (setA (fun _ => z0) 0 f) 2 h) 8 g, fun _ => 0, rfl, fun x hx => hh x (by omega), hf, hg, fun i p1 p2 p3 => by rw [setA_n p3, setA_n p2, setA_n p1], fun _ => rfl⟩
    | succ m ih =>
      intro i h hi hh
      refine V.brF rfl rfl (nI_ge (show i < 512 by omega) (by omega)) ?_
      refine V.run 20 rfl ?_
      refine V.iast (w' := (wC B a v [.inr (5, [.int 0, .int (nI B), .int 0, .int 0, .int 0, .ref 20, .ref 21, .ref 22, .ref 23, .ref 24, .ref 25, .ref 26, .ref 27, .ref 28, .int 0, .ref 29, .int 0, .ref 30, .ref 31]), .inl (false, 16, f), .inl (true, 16, z0), .inl (false, 512, (upd h i (-1))), .inl (false, 512, z0), .inl (true, 512, z0), .inl (true, 512, z0), .inl (false, 512, z0), .inl (false, 512, z0), .inl (false, 16, g), .inl (false, 512, z0), .inl (false, 512, z0), .inl (false, 512, z0)])) rfl rfl rfl (show i < 512 by omega) (by omega) rfl ?_
      refine V.run 20 rfl ?_
      rw [nI_add]
      refine ih (i + 1) _ (by omega) (fun x hx => ?_)
      by_cases q : x = i
      · subst q; exact upd_s
      · rw [upd_n q]; exact hh x (by omega)
  have loop1 : ∀ (m i : Nat) (f g : Nat → Int32), i + m = 16 → (∀ x, x < i → f x = -1) → (∀ x, x < i → g x = -1) → V none 85 (fun o w' => o = none ∧ ∃ am vm, w' = wC B a v (mC B am vm) ∧ (∀ x, x < 512 → am 2 x = -1) ∧ (∀ x, x < 16 → am 0 x = -1) ∧ (∀ x, x < 16 → am 8 x = -1) ∧ (∀ i, i ≠ 0 → i ≠ 2 → i ≠ 8 → am i = z0) ∧ ∀ i, vm i = 0) (12, 4656) 139 [(0, .ref 19), (1, .int z), (2, .int (nI i))] [.int (nI 16), .int (nI i)] (wC B a v [.inr (5, [.int 0, .int (nI B), .int 0, .int 0, .int 0, .ref 20, .ref 21, .ref 22, .ref 23, .ref 24, .ref 25, .ref 26, .ref 27, .ref 28, .int 0, .ref 29, .int 0, .ref 30, .ref 31]), .inl (false, 16, f), .inl (true, 16, z0), .inl (false, 512, z0), .inl (false, 512, z0), .inl (true, 512, z0), .inl (true, 512, z0), .inl (false, 512, z0), .inl (false, 512, z0), .inl (false, 16, g), .inl (false, 512, z0), .inl (false, 512, z0), .inl (false, 512, z0)]) := by
    intro m
    induction m with
    | zero =>
      intro i f g hi hf hg
      refine V.brT rfl rfl (nI_le (by omega) (by omega)) ?_
      refine V.run 20 rfl ?_
      exact loop2 (fun x hx => hf x (by omega)) (fun x hx => hg x (by omega)) 512 0 z0 (by omega) (fun x hx => absurd hx (Nat.not_lt_zero x))
    | succ m ih =>
      intro i f g hi hf hg
      refine V.brF rfl rfl (nI_ge (show i < 16 by omega) (by omega)) ?_
      refine V.run 20 rfl ?_
      refine V.iast (w' := (wC B a v [.inr (5, [.int 0, .int (nI B), .int 0, .int 0, .int 0, .ref 20, .ref 21, .ref 22, .ref 23, .ref 24, .ref 25, .ref 26, .ref 27, .ref 28, .int 0, .ref 29, .int 0, .ref 30, .ref 31]), .inl (false, 16, (upd f i (-1))), .inl (true, 16, z0), .inl (false, 512, z0), .inl (false, 512, z0), .inl (true, 512, z0), .inl (true, 512, z0), .inl (false, 512, z0), .inl (false, 512, z0), .inl (false, 16, g), .inl (false, 512, z0), .inl (false, 512, z0), .inl (false, 512, z0)])) rfl rfl rfl (show i < 16 by omega) (by omega) rfl ?_
      refine V.run 20 rfl ?_
      refine V.iast (w' := (wC B a v [.inr (5, [.int 0, .int (nI B), .int 0, .int 0, .int 0, .ref 20, .ref 21, .ref 22, .ref 23, .ref 24, .ref 25, .ref 26, .ref 27, .ref 28, .int 0, .ref 29, .int 0, .ref 30, .ref 31]), .inl (false, 16, (upd f i (-1))), .inl (true, 16, z0), .inl (false, 512, z0), .inl (false, 512, z0), .inl (true, 512, z0), .inl (true, 512, z0), .inl (false, 512, z0), .inl (false, 512, z0), .inl (false, 16, (upd g i (-1))), .inl (false, 512, z0), .inl (false, 512, z0), .inl (false, 512, z0)])) rfl rfl rfl (show i < 16 by omega) (by omega) rfl ?_
      refine V.run 20 rfl ?_
      rw [nI_add]
      refine ih (i + 1) _ _ (by omega) (fun x hx => ?_) (fun x hx => ?_)
      · by_cases q : x = i
        · subst q; exact upd_s
        · rw [upd_n q]; exact hf x (by omega)
      · by_cases q : x = i
        · subst q; exact upd_s
        · rw [upd_n q]; exact hg x (by omega)
  have fin : V none 85 (fun o w' => o = none ∧ ∃ am vm, w' = wC B a v (mC B am vm) ∧ (∀ x, x < 512 → am 2 x = -1) ∧ (∀ x, x < 16 → am 0 x = -1) ∧ (∀ x, x < 16 → am 8 x = -1) ∧ (∀ i, i ≠ 0 → i ≠ 2 → i ≠ 8 → am i = z0) ∧ ∀ i, vm i = 0) (12, 4656) 131 [(0, .ref 19), (1, .int z)] [.int (nI B), .ref 19] (wC B a v [.inr (5, [.int 0, .int 0, .int 0, .int 0, .int 0, .ref 20, .ref 21, .ref 22, .ref 23, .ref 24, .ref 25, .ref 26, .ref 27, .ref 28, .int 0, .ref 29, .int 0, .ref 30, .ref 31]), .inl (false, 16, z0), .inl (true, 16, z0), .inl (false, 512, z0), .inl (false, 512, z0), .inl (true, 512, z0), .inl (true, 512, z0), .inl (false, 512, z0), .inl (false, 512, z0), .inl (false, 16, z0), .inl (false, 512, z0), .inl (false, 512, z0), .inl (false, 512, z0)]) := by
    refine V.putF (w' := (wC B a v [.inr (5, [.int 0, .int (nI B), .int 0, .int 0, .int 0, .ref 20, .ref 21, .ref 22, .ref 23, .ref 24, .ref 25, .ref 26, .ref 27, .ref 28, .int 0, .ref 29, .int 0, .ref 30, .ref 31]), .inl (false, 16, z0), .inl (true, 16, z0), .inl (false, 512, z0), .inl (false, 512, z0), .inl (true, 512, z0), .inl (true, 512, z0), .inl (false, 512, z0), .inl (false, 512, z0), .inl (false, 16, z0), .inl (false, 512, z0), .inl (false, 512, z0), .inl (false, 512, z0)])) rfl rfl rfl ?_
    refine V.run 20 rfl ?_
    exact loop1 16 0 z0 z0 (by omega) (fun x hx => absurd hx (Nat.not_lt_zero x)) (fun x hx => absurd hx (Nat.not_lt_zero x))
  rcases hz with ⟨h, rfl⟩ | ⟨h, rfl⟩ | ⟨rfl, h1, h2⟩
  · refine V.brF rfl rfl (Int32.not_le.mpr h) ?_
    refine V.run 2 rfl ?_
    exact fin
  · refine V.brT rfl rfl (Int32.le_of_lt (i32_tr (show nI 1 < nI 16 by decide) h)) ?_
    refine V.run 20 rfl ?_
    refine V.brF rfl rfl (Int32.not_le.mpr h) ?_
    refine V.run 2 rfl ?_
    exact fin
  · refine V.brT rfl rfl (nI_le h1 (by omega)) ?_
    refine V.run 20 rfl ?_
    refine V.brT rfl rfl (nI_le h2 (by omega)) ?_
    refine V.run 1 rfl ?_
    exact fin
end CM5
end
section
/-! THE START, and THE LAW's walk -/
def s00 : AS := ((fun _ => -1, fun _ => 0, fun _ => -1, fun _ => 0, 0), fun _ => 0, fun _ => 0, fun _ => 0, fun _ => -1, [], 0, 0, fun _ => false)
theorem Inv_00 (B : Nat) : Inv B 0 s00 := by
  have hn : ∀ x, ¬ safe B s00 x := fun x h => h.2.1 rfl
  refine ⟨⟨fun b _ => Or.inl rfl, fun b _ => Or.inl rfl, fun w _ h => absurd rfl h, fun w _ => Or.inl rfl, fun w _ h => by cases h⟩, fun x hx => absurd hx (hn x), fun i _ => Or.inl rfl, ⟨List.nodup_nil, fun y hy => by cases hy⟩, ⟨fun w _ => Or.inl rfl, fun w _ h => absurd h (show ¬ (0 : Int32) = 1 by decide), fun x y _ _ h => absurd h (show ¬ (0 : Int32) = 1 by decide)⟩, ⟨0, Nat.le_refl _, rfl, fun x _ h => absurd rfl h⟩, fun x y _ _ h => absurd rfl h, fun x _ h => absurd rfl h⟩
/-- the class's arrays behind its constructor -/
def aC0 (f1 f2 f3 f4 f5 : Nat → Int32) : Nat → Nat → Int32 := setA (setA (setA (setA (setA (fun _ => z0) 0 f1) 6 f2) 8 f3) 10 f4) 12 f5
theorem RepC_00 {B : Nat} {f1 f2 f3 f4 f5 : Nat → Int32} (h1 : ∀ x, x < 32 * B → f1 x = -1) (h2 : ∀ x, x < 32 * B → f2 x = -1) (h4 : ∀ x, x < B → f4 x = -1) (h5 : ∀ x, x < 16 → f5 x = -1) : RepC B (aC0 f1 f2 f3 f4 f5) (fun _ => 0) s00 := by
  refine ⟨⟨h1, fun _ _ => rfl, h4, fun _ _ => rfl, rfl⟩, fun w _ h => absurd rfl h, fun _ _ => rfl, fun _ _ => rfl, h5, ⟨rfl, fun i x h => by have h : ([] : List Nat)[i]? = some x := h; simp at h⟩, rfl, rfl, fun w hw => ?_⟩
  show mkB f2 w = false
  unfold mkB
  rw [h2 w hw]
  rfl
theorem RepM_00 {B : Nat} (hB : B ≤ 16) {am : Nat → Nat → Int32} {vm : Nat → Int32} (h1 : ∀ x, x < 512 → am 2 x = -1) (h2 : ∀ x, x < 16 → am 0 x = -1) (h3 : ∀ x, x < 16 → am 8 x = -1) (h4 : ∀ i, i ≠ 0 → i ≠ 2 → i ≠ 8 → am i = z0) (h5 : ∀ i, vm i = 0) : RepM B am vm s00 := by
  refine ⟨⟨fun w hw => h1 w (by omega), fun w _ => by rw [h4 5 (by omega) (by omega) (by omega)]; rfl, fun b hb => h2 b (by omega), fun b _ => by rw [h4 1 (by omega) (by omega) (by omega)]; rfl, h5 3⟩, fun w _ h => absurd rfl h, fun w _ => by rw [h4 6 (by omega) (by omega) (by omega)]; rfl, fun w _ => by rw [h4 7 (by omega) (by omega) (by omega)]; rfl, h3, ⟨h5 4, fun i x h => by have h : ([] : List Nat)[i]? = some x := h; simp at h⟩, h5 1, h5 2, fun w _ => by rw [h4 4 (by omega) (by omega) (by omega)]; rfl⟩
theorem lg_cmp_self (x : Int64) : lg_cmp x x = 0 := by
  unfold lg_cmp
  simp
theorem l_cell {L : Nat} {xs : Nat → Int32} (hL : L < 2 ^ 31) {w : xW} : Tot (some (L, xs)) kL_cell [.ref 999, .int (nI 0)] w (rI (if 0 < L then xs 0 else nI 0) w) := by
  refine eL_cell ?_
  refine V.run 2 rfl ?_
  refine V.slen rfl ?_
  by_cases h : 0 < L
  · rw [if_pos h]
    refine V.brF rfl rfl (nI_ge h hL) ?_
    refine V.run 20 rfl ?_
    refine V.sld (j := 0) rfl rfl h hL ?_
    refine V.run 20 rfl ?_
    exact V.ri rfl ⟨rfl, rfl⟩
  · rw [if_neg h]
    refine V.brT rfl rfl (nI_le (by omega) (by omega)) ?_
    refine V.run 20 rfl ?_
    exact V.ri rfl ⟨rfl, rfl⟩
theorem l_B (z : Int32) : ∃ B, (1 ≤ B ∧ B ≤ 16) ∧ ((z < nI 1 ∧ B = 1) ∨ (nI 16 < z ∧ B = 16) ∨ (z = nI B ∧ 1 ≤ B ∧ B ≤ 16)) := by
  by_cases h1 : z < nI 1
  · exact ⟨1, by omega, Or.inl ⟨h1, rfl⟩⟩
  · by_cases h2 : nI 16 < z
    · exact ⟨16, by omega, Or.inr (Or.inl ⟨h2, rfl⟩)⟩
    · rcases pk_ix z (n := 17) (by omega) with h | h | ⟨j, hj, rfl⟩
      · exact absurd (i32_tr h (show (0 : Int32) < nI 1 by decide)) h1
      · exact absurd (i32_tl (show nI 16 < nI 17 by decide) h) h2
      · have h3 : 1 ≤ j := by
          rcases Nat.lt_or_ge j 1 with q | q
          · exact absurd (nI_lt q (by omega)) h1
          · exact q
        exact ⟨j, by omega, Or.inr (Or.inr ⟨rfl, h3, by omega⟩)⟩
set_option maxRecDepth 100000 in
theorem law_loop {B L : Nat} {xs : Nat → Int32} (hB : B ≤ 16) (hB1 : 1 ≤ B) (hL : L ≤ 2561) : ∀ (m j i : Nat) (s : AS) (a : Nat → Nat → Int32) (v : Nat → Int32) (am : Nat → Nat → Int32) (vm : Nat → Int32), i = 5 * j + 1 → i ≤ 3000 → L ≤ i + 5 * m → Inv B j s → RepC B a v s → RepM B am vm s →
    V (some (L, xs)) 124 (fun o _ => o = some (.int (nI 1))) (32, 9103) 30 [(0, .ref 999), (1, .ref 0), (2, .ref 19), (3, .int (nI i))] [.ref 999, .int (nI i)] (wC B a v (mC B am vm)) := by
  have out : ∀ (i : Nat) (a : Nat → Nat → Int32) (v : Nat → Int32) (am : Nat → Nat → Int32) (vm : Nat → Int32), 1 ≤ i → i < 2 ^ 30 → ¬ i + 5 ≤ L → V (some (L, xs)) 124 (fun o _ => o = some (.int (nI 1))) (32, 9103) 30 [(0, .ref 999), (1, .ref 0), (2, .ref 19), (3, .int (nI i))] [.ref 999, .int (nI i)] (wC B a v (mC B am vm)) := by
    intro i a v am vm hi hi2 hn
    refine V.slen rfl ?_
    refine V.run 20 rfl ?_
    refine V.brT rfl rfl (show nI L - nI 5 < nI i from ?_) ?_
    · by_cases h5 : 5 ≤ L
      · rw [pk_sub h5]; exact nI_lt (by omega) (by omega)
      · exact i32_tl (pk_sneg (by omega) (by omega)) (nI_pos' (by omega))
    · refine V.run 20 rfl ?_
      exact V.rz rfl (Or.inr rfl) rfl
  intro m
  induction m with
  | zero =>
    intro j i s a v am vm hij hi3 hm hI hC hM
    exact out i a v am vm (by omega) (by omega) (by omega)
  | succ m ih =>
    intro j i s a v am vm hij hi3 hm hI hC hM
    by_cases hgo : i + 5 ≤ L
    · have hn : j ≤ 1000 := by omega
      have hi30 : i < 2 ^ 30 := by omega
      have nxt : ∀ s' a' v' am' vm', Inv B (j + 1) s' → RepC B a' v' s' → RepM B am' vm' s' → V (some (L, xs)) 124 (fun o _ => o = some (.int (nI 1))) (32, 9103) 705 [(0, .ref 999), (1, .ref 0), (2, .ref 19), (3, .int (nI i))] [] (wC B a' v' (mC B am' vm')) := by
        intro s' a' v' am' vm' h1 h2 h3
        refine V.run 20 rfl ?_
        rw [nI_add]
        exact ih (j + 1) (i + 5) s' a' v' am' vm' (by omega) (by omega) (by omega) h1 h2 h3
      refine V.slen rfl ?_
      refine V.run 20 rfl ?_
      refine V.brF rfl rfl (show ¬ nI L - nI 5 < nI i from ?_) ?_
      · rw [pk_sub (by omega)]; exact nI_nlt (by omega) (by omega)
      refine V.run 20 rfl ?_
      refine V.sld (j := i) rfl rfl (by omega) (by omega) ?_
      refine V.run 20 rfl ?_
      obtain ⟨t, ht, et⟩ := pk_andE (xs i) (m := nI 31) 5 (by decide)
      rw [et]
      rcases (show t = 0 ∨ t = 1 ∨ t = 2 ∨ t = 3 ∨ t = 4 ∨ t = 5 ∨ t = 6 ∨ t = 7 ∨ t = 8 ∨ t = 9 ∨ t = 10 ∨ t = 11 ∨ t = 12 ∨ t = 13 ∨ t = 14 ∨ t = 15 ∨ t = 16 ∨ t = 17 ∨ 18 ≤ t by omega) with rfl | rfl | rfl | rfl | rfl | rfl | rfl | rfl | rfl | rfl | rfl | rfl | rfl | rfl | rfl | rfl | rfl | rfl | h18
      · refine V.tableIn (tgt := 128) rfl (by decide) (by decide) rfl rfl ?_
        refine V.run 20 rfl ?_
        refine V.sld (j := i + 1) rfl (nI_add _ _) (by omega) (by omega) ?_
        refine V.run 20 rfl ?_
        refine V.sld (j := i + 2) rfl (nI_add _ _) (by omega) (by omega) ?_
        refine V.cv rfl (c_make hB hn hI hC _ _ ) rfl rfl ?_
        rintro _ _ ⟨rfl, a1, v1, rfl, hC1⟩
        refine V.run 20 rfl ?_
        refine V.sld (j := i + 1) rfl (nI_add _ _) (by omega) (by omega) ?_
        refine V.run 20 rfl ?_
        refine V.sld (j := i + 2) rfl (nI_add _ _) (by omega) (by omega) ?_
        refine V.cv rfl (m_make (cc := cC B a1 v1) hB hn hI hM _ _ ) rfl rfl ?_
        rintro _ _ ⟨rfl, am1, vm1, rfl, hM1⟩
        refine V.brT rfl rfl rfl ?_
        exact nxt _ _ _ _ _ (Inv_make hB hn hI _ _) hC1 hM1
      · refine V.tableIn (tgt := 161) rfl (by decide) (by decide) rfl rfl ?_
        refine V.run 20 rfl ?_
        refine V.sld (j := i + 1) rfl (nI_add _ _) (by omega) (by omega) ?_
        refine V.run 20 rfl ?_
        refine V.sld (j := i + 2) rfl (nI_add _ _) (by omega) (by omega) ?_
        refine V.run 20 rfl ?_
        refine V.sld (j := i + 3) rfl (nI_add _ _) (by omega) (by omega) ?_
        refine V.cv rfl (c_set hB hI hC _ _ _ ) rfl rfl ?_
        rintro _ _ ⟨rfl, a1, v1, rfl, hC1⟩
        refine V.run 20 rfl ?_
        refine V.sld (j := i + 1) rfl (nI_add _ _) (by omega) (by omega) ?_
        refine V.run 20 rfl ?_
        refine V.sld (j := i + 2) rfl (nI_add _ _) (by omega) (by omega) ?_
        refine V.run 20 rfl ?_
        refine V.sld (j := i + 3) rfl (nI_add _ _) (by omega) (by omega) ?_
        refine V.cv rfl (m_set (cc := cC B a1 v1) hB hI hM _ _ _ ) rfl rfl ?_
        rintro _ _ ⟨rfl, am1, vm1, rfl, hM1⟩
        refine V.brT rfl rfl rfl ?_
        exact nxt _ _ _ _ _ ((Inv_set hI _ _ _).mono (by omega)) hC1 hM1
      · refine V.tableIn (tgt := 204) rfl (by decide) (by decide) rfl rfl ?_
        by_cases hb : xs (i + 4) = 0
        · refine V.run 20 rfl ?_
          refine V.sld (j := i + 1) rfl (nI_add _ _) (by omega) (by omega) ?_
          refine V.run 20 rfl ?_
          refine V.sld (j := i + 2) rfl (nI_add _ _) (by omega) (by omega) ?_
          refine V.run 20 rfl ?_
          refine V.sld (j := i + 3) rfl (nI_add _ _) (by omega) (by omega) ?_
          refine V.run 20 rfl ?_
          refine V.sld (j := i + 4) rfl (nI_add _ _) (by omega) (by omega) ?_
          refine V.brT rfl rfl hb ?_
          refine V.run 1 rfl ?_
          refine V.cv rfl (c_link hB hI hC _ _ _ _ ) rfl rfl ?_
          rintro _ _ ⟨rfl, a1, v1, rfl, hC1⟩
          refine V.run 20 rfl ?_
          refine V.sld (j := i + 1) rfl (nI_add _ _) (by omega) (by omega) ?_
          refine V.run 20 rfl ?_
          refine V.sld (j := i + 2) rfl (nI_add _ _) (by omega) (by omega) ?_
          refine V.run 20 rfl ?_
          refine V.sld (j := i + 3) rfl (nI_add _ _) (by omega) (by omega) ?_
          refine V.run 20 rfl ?_
          refine V.sld (j := i + 4) rfl (nI_add _ _) (by omega) (by omega) ?_
          refine V.brT rfl rfl hb ?_
          refine V.run 1 rfl ?_
          refine V.cv rfl (m_link (cc := cC B a1 v1) hB hI hM _ _ _ _ ) rfl rfl ?_
          rintro _ _ ⟨rfl, am1, vm1, rfl, hM1⟩
          refine V.brT rfl rfl rfl ?_
          exact nxt _ _ _ _ _ ((Inv_link hI _ _ _ _).mono (by omega)) hC1 hM1
        · refine V.run 20 rfl ?_
          refine V.sld (j := i + 1) rfl (nI_add _ _) (by omega) (by omega) ?_
          refine V.run 20 rfl ?_
          refine V.sld (j := i + 2) rfl (nI_add _ _) (by omega) (by omega) ?_
          refine V.run 20 rfl ?_
          refine V.sld (j := i + 3) rfl (nI_add _ _) (by omega) (by omega) ?_
          refine V.run 20 rfl ?_
          refine V.sld (j := i + 4) rfl (nI_add _ _) (by omega) (by omega) ?_
          refine V.brF rfl rfl hb ?_
          refine V.run 2 rfl ?_
          refine V.cv rfl (c_link hB hI hC _ _ _ _ ) rfl rfl ?_
          rintro _ _ ⟨rfl, a1, v1, rfl, hC1⟩
          refine V.run 20 rfl ?_
          refine V.sld (j := i + 1) rfl (nI_add _ _) (by omega) (by omega) ?_
          refine V.run 20 rfl ?_
          refine V.sld (j := i + 2) rfl (nI_add _ _) (by omega) (by omega) ?_
          refine V.run 20 rfl ?_
          refine V.sld (j := i + 3) rfl (nI_add _ _) (by omega) (by omega) ?_
          refine V.run 20 rfl ?_
          refine V.sld (j := i + 4) rfl (nI_add _ _) (by omega) (by omega) ?_
          refine V.brF rfl rfl hb ?_
          refine V.run 2 rfl ?_
          refine V.cv rfl (m_link (cc := cC B a1 v1) hB hI hM _ _ _ _ ) rfl rfl ?_
          rintro _ _ ⟨rfl, am1, vm1, rfl, hM1⟩
          refine V.brT rfl rfl rfl ?_
          exact nxt _ _ _ _ _ ((Inv_link hI _ _ _ _).mono (by omega)) hC1 hM1
      · refine V.tableIn (tgt := 273) rfl (by decide) (by decide) rfl rfl ?_
        refine V.run 20 rfl ?_
        refine V.sld (j := i + 1) rfl (nI_add _ _) (by omega) (by omega) ?_
        refine V.run 20 rfl ?_
        refine V.sld (j := i + 2) rfl (nI_add _ _) (by omega) (by omega) ?_
        refine V.cv rfl (c_refers hB hI hC _ _ ) rfl rfl ?_
        rintro _ _ ⟨rfl, rfl⟩
        refine V.run 20 rfl ?_
        refine V.sld (j := i + 1) rfl (nI_add _ _) (by omega) (by omega) ?_
        refine V.run 20 rfl ?_
        refine V.sld (j := i + 2) rfl (nI_add _ _) (by omega) (by omega) ?_
        refine V.cv rfl (m_refers (cc := cC B a v) hB hI hM _ _ ) rfl rfl ?_
        rintro _ _ ⟨rfl, am1, vm1, rfl, hM1⟩
        refine V.brT rfl rfl rfl ?_
        exact nxt _ _ _ _ _ (hI.mono (by omega)) hC hM1
      · refine V.tableIn (tgt := 306) rfl (by decide) (by decide) rfl rfl ?_
        refine V.run 20 rfl ?_
        refine V.sld (j := i + 1) rfl (nI_add _ _) (by omega) (by omega) ?_
        refine V.run 20 rfl ?_
        refine V.sld (j := i + 2) rfl (nI_add _ _) (by omega) (by omega) ?_
        refine V.cv rfl (c_number hB hI hC _ _ ) rfl rfl ?_
        rintro _ _ ⟨rfl, rfl⟩
        refine V.run 20 rfl ?_
        refine V.sld (j := i + 1) rfl (nI_add _ _) (by omega) (by omega) ?_
        refine V.run 20 rfl ?_
        refine V.sld (j := i + 2) rfl (nI_add _ _) (by omega) (by omega) ?_
        refine V.cv rfl (m_number (cc := cC B a v) hB hI hM _ _ ) rfl rfl ?_
        rintro _ _ ⟨rfl, am1, vm1, rfl, hM1⟩
        refine V.brT rfl rfl rfl ?_
        exact nxt _ _ _ _ _ (hI.mono (by omega)) hC hM1
      · refine V.tableIn (tgt := 339) rfl (by decide) (by decide) rfl rfl ?_
        refine V.run 20 rfl ?_
        refine V.sld (j := i + 1) rfl (nI_add _ _) (by omega) (by omega) ?_
        refine V.run 20 rfl ?_
        refine V.sld (j := i + 2) rfl (nI_add _ _) (by omega) (by omega) ?_
        refine V.run 20 rfl ?_
        refine V.sld (j := i + 3) rfl (nI_add _ _) (by omega) (by omega) ?_
        refine V.cv rfl (c_load hB hI hC _ _ _ ) rfl rfl ?_
        rintro _ _ ⟨rfl, a1, v1, rfl, hC1⟩
        refine V.run 20 rfl ?_
        refine V.sld (j := i + 1) rfl (nI_add _ _) (by omega) (by omega) ?_
        refine V.run 20 rfl ?_
        refine V.sld (j := i + 2) rfl (nI_add _ _) (by omega) (by omega) ?_
        refine V.run 20 rfl ?_
        refine V.sld (j := i + 3) rfl (nI_add _ _) (by omega) (by omega) ?_
        refine V.cv rfl (m_load (cc := cC B a1 v1) hB hI hM _ _ _ ) rfl rfl ?_
        rintro _ _ ⟨rfl, am1, vm1, rfl, hM1⟩
        refine V.brT rfl rfl rfl ?_
        exact nxt _ _ _ _ _ ((Inv_load hB hI _ _ _).mono (by omega)) hC1 hM1
      · refine V.tableIn (tgt := 382) rfl (by decide) (by decide) rfl rfl ?_
        refine V.run 20 rfl ?_
        refine V.sld (j := i + 1) rfl (nI_add _ _) (by omega) (by omega) ?_
        refine V.run 20 rfl ?_
        refine V.sld (j := i + 2) rfl (nI_add _ _) (by omega) (by omega) ?_
        refine V.cv rfl (c_copy hB hI hC _ _ ) rfl rfl ?_
        rintro _ _ ⟨rfl, a1, v1, rfl, hC1⟩
        refine V.run 20 rfl ?_
        refine V.sld (j := i + 1) rfl (nI_add _ _) (by omega) (by omega) ?_
        refine V.run 20 rfl ?_
        refine V.sld (j := i + 2) rfl (nI_add _ _) (by omega) (by omega) ?_
        refine V.cv rfl (m_copy (cc := cC B a1 v1) hB hI hM _ _ ) rfl rfl ?_
        rintro _ _ ⟨rfl, am1, vm1, rfl, hM1⟩
        refine V.brT rfl rfl rfl ?_
        exact nxt _ _ _ _ _ ((Inv_copy hI _ _).mono (by omega)) hC1 hM1
      · refine V.tableIn (tgt := 415) rfl (by decide) (by decide) rfl rfl ?_
        refine V.run 20 rfl ?_
        refine V.sld (j := i + 1) rfl (nI_add _ _) (by omega) (by omega) ?_
        refine V.cv rfl (c_drop hB hI hC _ ) rfl rfl ?_
        rintro _ _ ⟨rfl, a1, v1, rfl, hC1⟩
        refine V.run 20 rfl ?_
        refine V.sld (j := i + 1) rfl (nI_add _ _) (by omega) (by omega) ?_
        refine V.cv rfl (m_drop (cc := cC B a1 v1) hB hI hM _ ) rfl rfl ?_
        rintro _ _ ⟨rfl, am1, vm1, rfl, hM1⟩
        refine V.brT rfl rfl rfl ?_
        exact nxt _ _ _ _ _ ((Inv_drop hI _).mono (by omega)) hC1 hM1
      · refine V.tableIn (tgt := 438) rfl (by decide) (by decide) rfl rfl ?_
        by_cases hb : xs (i + 2) = 0
        · refine V.run 20 rfl ?_
          refine V.sld (j := i + 1) rfl (nI_add _ _) (by omega) (by omega) ?_
          refine V.run 20 rfl ?_
          refine V.sld (j := i + 2) rfl (nI_add _ _) (by omega) (by omega) ?_
          refine V.brT rfl rfl hb ?_
          refine V.run 1 rfl ?_
          refine V.cv rfl (c_watch hB hI hC _ _ (Or.inl rfl)) rfl rfl ?_
          rintro _ _ ⟨rfl, a1, v1, rfl, hC1⟩
          refine V.run 20 rfl ?_
          refine V.sld (j := i + 1) rfl (nI_add _ _) (by omega) (by omega) ?_
          refine V.run 20 rfl ?_
          refine V.sld (j := i + 2) rfl (nI_add _ _) (by omega) (by omega) ?_
          refine V.brT rfl rfl hb ?_
          refine V.run 1 rfl ?_
          refine V.cv rfl (m_watch (cc := cC B a1 v1) hB hI hM _ _ (Or.inl rfl)) rfl rfl ?_
          rintro _ _ ⟨rfl, am1, vm1, rfl, hM1⟩
          refine V.brT rfl rfl rfl ?_
          exact nxt _ _ _ _ _ ((Inv_watch hB hI _ _ (Or.inl rfl)).mono (by omega)) hC1 hM1
        · refine V.run 20 rfl ?_
          refine V.sld (j := i + 1) rfl (nI_add _ _) (by omega) (by omega) ?_
          refine V.run 20 rfl ?_
          refine V.sld (j := i + 2) rfl (nI_add _ _) (by omega) (by omega) ?_
          refine V.brF rfl rfl hb ?_
          refine V.run 2 rfl ?_
          refine V.cv rfl (c_watch hB hI hC _ _ (Or.inr rfl)) rfl rfl ?_
          rintro _ _ ⟨rfl, a1, v1, rfl, hC1⟩
          refine V.run 20 rfl ?_
          refine V.sld (j := i + 1) rfl (nI_add _ _) (by omega) (by omega) ?_
          refine V.run 20 rfl ?_
          refine V.sld (j := i + 2) rfl (nI_add _ _) (by omega) (by omega) ?_
          refine V.brF rfl rfl hb ?_
          refine V.run 2 rfl ?_
          refine V.cv rfl (m_watch (cc := cC B a1 v1) hB hI hM _ _ (Or.inr rfl)) rfl rfl ?_
          rintro _ _ ⟨rfl, am1, vm1, rfl, hM1⟩
          refine V.brT rfl rfl rfl ?_
          exact nxt _ _ _ _ _ ((Inv_watch hB hI _ _ (Or.inr rfl)).mono (by omega)) hC1 hM1
      · refine V.tableIn (tgt := 487) rfl (by decide) (by decide) rfl rfl ?_
        refine V.run 20 rfl ?_
        refine V.sld (j := i + 1) rfl (nI_add _ _) (by omega) (by omega) ?_
        refine V.cv rfl (c_next hB hI hC _ ) rfl rfl ?_
        rintro _ _ ⟨rfl, a1, v1, rfl, hC1⟩
        refine V.run 20 rfl ?_
        refine V.sld (j := i + 1) rfl (nI_add _ _) (by omega) (by omega) ?_
        refine V.cv rfl (m_next (cc := cC B a1 v1) hB hI hM _ ) rfl rfl ?_
        rintro _ _ ⟨rfl, am1, vm1, rfl, hM1⟩
        refine V.brT rfl rfl rfl ?_
        exact nxt _ _ _ _ _ ((Inv_next hI _).mono (by omega)) hC1 hM1
      · refine V.tableIn (tgt := 510) rfl (by decide) (by decide) rfl rfl ?_
        refine V.run 20 rfl ?_
        refine V.cv rfl (c_mark hB hI hC  ) rfl rfl ?_
        rintro _ _ ⟨rfl, a1, v1, rfl, hC1⟩
        refine V.run 20 rfl ?_
        refine V.cv rfl (m_mark (cc := cC B a1 v1) hB hn hI hM  ) rfl rfl ?_
        rintro _ _ ⟨rfl, am1, vm1, rfl, hM1⟩
        refine V.brT rfl rfl rfl ?_
        exact nxt _ _ _ _ _ ((Inv_mrk hB hI).mono (by omega)) hC1 hM1
      · refine V.tableIn (tgt := 523) rfl (by decide) (by decide) rfl rfl ?_
        refine V.run 20 rfl ?_
        refine V.cv rfl (c_sweep hB hI hC  ) rfl rfl ?_
        rintro _ _ ⟨rfl, a1, v1, rfl, hC1⟩
        refine V.run 20 rfl ?_
        refine V.cv rfl (m_sweep (cc := cC B a1 v1) hB hI hM  ) rfl rfl ?_
        rintro _ _ ⟨rfl, am1, vm1, rfl, hM1⟩
        refine V.brT rfl rfl rfl ?_
        exact nxt _ _ _ _ _ ((Inv_sweep hI).mono (by omega)) hC1 hM1
      · refine V.tableIn (tgt := 536) rfl (by decide) (by decide) rfl rfl ?_
        refine V.run 20 rfl ?_
        refine V.sld (j := i + 1) rfl (nI_add _ _) (by omega) (by omega) ?_
        refine V.run 20 rfl ?_
        refine V.sld (j := i + 2) rfl (nI_add _ _) (by omega) (by omega) ?_
        refine V.cv rfl (c_object hB hI hC _ _ ) rfl rfl ?_
        rintro _ _ ⟨rfl, rfl⟩
        refine V.run 20 rfl ?_
        refine V.sld (j := i + 1) rfl (nI_add _ _) (by omega) (by omega) ?_
        refine V.run 20 rfl ?_
        refine V.sld (j := i + 2) rfl (nI_add _ _) (by omega) (by omega) ?_
        refine V.cv rfl (m_object (cc := cC B a v) hB hI hM _ _ ) rfl rfl ?_
        rintro _ _ ⟨rfl, am1, vm1, rfl, hM1⟩
        refine V.brT rfl rfl rfl ?_
        exact nxt _ _ _ _ _ (hI.mono (by omega)) hC hM1
      · refine V.tableIn (tgt := 569) rfl (by decide) (by decide) rfl rfl ?_
        refine V.run 20 rfl ?_
        refine V.sld (j := i + 1) rfl (nI_add _ _) (by omega) (by omega) ?_
        refine V.cv rfl (c_at hB hI hC _ ) rfl rfl ?_
        rintro _ _ ⟨rfl, rfl⟩
        refine V.run 20 rfl ?_
        refine V.sld (j := i + 1) rfl (nI_add _ _) (by omega) (by omega) ?_
        refine V.cv rfl (m_at (cc := cC B a v) hB hB1 hI hM _ ) rfl rfl ?_
        rintro _ _ ⟨rfl, am1, vm1, rfl, hM1⟩
        refine V.brT rfl rfl rfl ?_
        exact nxt _ _ _ _ _ (hI.mono (by omega)) hC hM1
      · refine V.tableIn (tgt := 592) rfl (by decide) (by decide) rfl rfl ?_
        refine V.run 20 rfl ?_
        refine V.sld (j := i + 1) rfl (nI_add _ _) (by omega) (by omega) ?_
        refine V.run 20 rfl ?_
        refine V.sld (j := i + 2) rfl (nI_add _ _) (by omega) (by omega) ?_
        refine V.cv rfl (c_block hB hI hC _ _ ) rfl rfl ?_
        rintro _ _ ⟨rfl, rfl⟩
        refine V.run 20 rfl ?_
        refine V.sld (j := i + 1) rfl (nI_add _ _) (by omega) (by omega) ?_
        refine V.run 20 rfl ?_
        refine V.sld (j := i + 2) rfl (nI_add _ _) (by omega) (by omega) ?_
        refine V.cv rfl (m_block (cc := cC B a v) hB hB1 hI hM _ _ ) rfl rfl ?_
        rintro _ _ ⟨rfl, am1, vm1, rfl, hM1⟩
        refine V.brT rfl rfl rfl ?_
        exact nxt _ _ _ _ _ (hI.mono (by omega)) hC hM1
      · refine V.tableIn (tgt := 625) rfl (by decide) (by decide) rfl rfl ?_
        refine V.run 20 rfl ?_
        refine V.sld (j := i + 1) rfl (nI_add _ _) (by omega) (by omega) ?_
        refine V.cv rfl (c_count hB hI hC _ ) rfl rfl ?_
        rintro _ _ ⟨rfl, a1, v1, rfl, hC1⟩
        refine V.run 20 rfl ?_
        refine V.sld (j := i + 1) rfl (nI_add _ _) (by omega) (by omega) ?_
        refine V.cv rfl (m_count (cc := cC B a1 v1) hB hI hM _ ) rfl rfl ?_
        rintro _ _ ⟨rfl, am1, vm1, rfl, hM1⟩
        refine V.brT rfl rfl rfl ?_
        exact nxt _ _ _ _ _ (hI.mono (by omega)) hC1 hM1
      · refine V.tableIn (tgt := 648) rfl (by decide) (by decide) rfl rfl ?_
        refine V.run 20 rfl ?_
        refine V.sld (j := i + 1) rfl (nI_add _ _) (by omega) (by omega) ?_
        refine V.run 20 rfl ?_
        refine V.sld (j := i + 2) rfl (nI_add _ _) (by omega) (by omega) ?_
        refine V.cv rfl (c_same hB hI hC _ _ ) rfl rfl ?_
        rintro _ _ ⟨rfl, rfl⟩
        refine V.run 20 rfl ?_
        refine V.sld (j := i + 1) rfl (nI_add _ _) (by omega) (by omega) ?_
        refine V.run 20 rfl ?_
        refine V.sld (j := i + 2) rfl (nI_add _ _) (by omega) (by omega) ?_
        refine V.cv rfl (m_same (cc := cC B a v) hB hI hM _ _ ) rfl rfl ?_
        rintro _ _ ⟨rfl, am1, vm1, rfl, hM1⟩
        refine V.brT rfl rfl rfl ?_
        exact nxt _ _ _ _ _ (hI.mono (by omega)) hC hM1
      · refine V.tableIn (tgt := 681) rfl (by decide) (by decide) rfl rfl ?_
        refine V.run 20 rfl ?_
        refine V.sld (j := i + 1) rfl (nI_add _ _) (by omega) (by omega) ?_
        refine V.cv rfl (c_sum hB hI hC _ ) rfl rfl ?_
        rintro _ _ ⟨rfl, a1, v1, rfl, hC1⟩
        refine V.run 20 rfl ?_
        refine V.sld (j := i + 1) rfl (nI_add _ _) (by omega) (by omega) ?_
        refine V.cv rfl (m_sum (cc := cC B a1 v1) hB hI hM _ ) rfl rfl ?_
        rintro _ _ ⟨rfl, am1, vm1, rfl, hM1⟩
        refine V.run 20 rfl ?_
        refine V.brT rfl rfl (lg_cmp_self _) ?_
        exact nxt _ _ _ _ _ (hI.mono (by omega)) hC1 hM1
      · refine V.tableOut (tgt := 705) rfl (Or.inr (by rw [nI_toInt (by omega)]; omega)) rfl ?_
        exact nxt s a v am vm (hI.mono (by omega)) hC hM
    · exact out i a v am vm (by omega) (by omega) hgo
end
section
/-! THE CLAIM OUT OF ONE WALK OF THE LAW'S BODY. Your part is whole_start (and what it stands on); all else here is the same for every law, but numbers. -/
def R_law : String := "LazyBlocksLaw"
def lw_P (b : Addr) (xs : List Int32) (args : Array Value) (s : State) : Prop := args = #[.ref b] ∧ s.IntsAt b xs ∧ xs.length ≤ 2561 ∧ (Jvm.Cond.and given_1 narrow_1).before args s = true
def lw_Q (_ : Array Value) (s : State) (o : Outcome) (t : State) : Prop := o = .returned (some (.int 1)) ∧ Framed s o t [] 600000 7302250
def lw_Z (below : List Frame) (a : Array Value) (s : State) : State → Prop := fun t => ∃ o, t.status = .running ∧ Ended t below o ∧ lw_Q a s o t
/-- the law's own end, with 1 on the stack, nothing written that was there before, its room as the claim has it -/
theorem lw_ret {p : Program} {l : Launch} {e : Env} {s : State} {m : MethodId} {below : List Frame} {meth : Method} {c : Code} {b : Nat} (hx : p.tables.exec = Jvm.exec) (hb : c.code = code) (hr : meth.sig.returnType = ret) (hlocks : meth.locks = false) {pc : Nat} {H : Heap} {ls : Array Slot} (hdg : decode code pc = .ok (.ireturn, 1)) : W p l e room_1 s m #[Value.ref b] below meth c H [] 600000 7302250 (lw_Z below #[Value.ref b] s) (F0 m pc ls [.int 1]) := by
  intro T hT X
  obtain ⟨fs, hret, hrun, hended, hW, hframe⟩ := X.leave (v := some (.int 1)) (hlocks := hlocks) (fun h => by rw [hr] at h; cases h)
  have hmeth' : T.vm.method? m = some meth := X.method'
  refine ⟨T.setFrames fs, ?_, .returned (some (.int 1)), hrun, hended, rfl, ⟨_, rfl⟩, hW, hframe⟩
  jvm_step X.here [X.here.top, hx, hb, hdg, hmeth', hr, ret, narrow_b1]
  (try refine ⟨rfl, ?_⟩); (try refine ⟨rfl, ?_⟩)
  first | (intro acts; rw [hret _ acts rfl rfl rfl]) | rw [hret _ _ rfl rfl rfl]
  exact Steps.refl _
/-- what holds at the law's entry: the machine, the code, the tables' words (any of lw_tbl by 'hts w (by decide +kernel)'), the script of L ints xs at the cell b, what the Statement gives of the start (any of its parts by flat_of_before) -/
def lw_At (p : Program) (s : State) (m : MethodId) (meth : Method) (c : Code) (b L : Nat) (xs : Nat → Int32) : Prop :=
  p.tables.exec = Jvm.exec ∧ c.code = code ∧ meth.sig.returnType = ret ∧ c.maxLocals = 4 ∧ s.vm.findClass R_law = some m.cls ∧ (∀ w ∈ lw_tbl, w.before #[Value.ref b] s = true) ∧ va_X b L xs s s.heap ∧ b < s.heap.size ∧ meth.locks = false ∧ (Jvm.Cond.and given_1 narrow_1).before #[Value.ref b] s = true
/-- what the law's world needs of the tables -/
theorem law_V {L : Nat} {xs : Nat → Int32} (hL : L ≤ 2561) : V (some (L, xs)) 124 (fun o _ => o = some (.int (nI 1))) (0, 0) 0 [(0, .ref 999)] [] [] := by
  obtain ⟨B, ⟨hB1, hB⟩, hz⟩ := l_B (if 0 < L then xs 0 else nI 0)
  refine V.mkO (1, 8) 0 fN4 [.inr (4, fN4)] rfl ?_
  refine V.run 3 rfl ?_
  refine V.callS (X' := some (L, xs)) (as := [.ref 999, .int (nI 0)]) (rest := [.ref 0, .ref 0]) rfl rfl (l_cell (by omega)) rfl rfl (Nat.le_of_ble_eq_true rfl) (Or.inr rfl) (Or.inl rfl) ⟨Nat.le_of_ble_eq_true rfl, Nat.le_of_ble_eq_true rfl⟩ ?_
  rintro _ _ ⟨rfl, rfl⟩
  refine V.ci rfl (i_Lazy hz) rfl ?_
  rintro _ _ ⟨rfl, f1, f2, f3, f4, f5, rfl, h1, h2, h3, h4, h5⟩
  have hC := RepC_00 (f3 := f3) h1 h2 h4 h5
  change V _ _ _ (19, 4428) _ _ _ (wC B (aC0 f1 f2 f3 f4 f5) (fun _ => 0) [])
  generalize aC0 f1 f2 f3 f4 f5 = a at hC ⊢
  refine V.run 1 rfl ?_
  refine V.mkO (20, 4447) 19 [.int 0, .int 0, .int 0, .int 0, .int 0, .null, .null, .null, .null, .null, .null, .null, .null, .null, .int 0, .null, .int 0, .null, .null] (wC B a (fun _ => 0) [.inr (5, [.int 0, .int 0, .int 0, .int 0, .int 0, .null, .null, .null, .null, .null, .null, .null, .null, .null, .int 0, .null, .int 0, .null, .null])]) rfl ?_
  refine V.run 3 rfl ?_
  refine V.callS (X' := some (L, xs)) (as := [.ref 999, .int (nI 0)]) (rest := [.ref 19, .ref 19]) rfl rfl (l_cell (by omega)) rfl rfl (Nat.le_of_ble_eq_true rfl) (Or.inr rfl) (Or.inl rfl) ⟨Nat.le_of_ble_eq_true rfl, Nat.le_of_ble_eq_true rfl⟩ ?_
  rintro _ _ ⟨rfl, rfl⟩
  refine V.ci rfl (i_Model hz) rfl ?_
  rintro _ _ ⟨rfl, am, vm, rfl, k1, k2, k3, k4, k5⟩
  refine V.run 20 rfl ?_
  exact law_loop hB hB1 hL 513 0 1 s00 a (fun _ => 0) am vm (by omega) (by omega) (by omega) (Inv_00 B) hC (RepM_00 hB k1 k2 k3 k4 k5)
theorem law_arr {args : Array Value} {s : State} {ty : FieldType} (h : (Cond.arrayClass ty).before args s = true) : ∃ cA : ClassId, ArrOfT s cA ty ∧ s.vm.findClass ("[" ++ ty.toString) = some cA := by
  obtain ⟨cA, kA, comp, h1, h2, h3⟩ := Cond.arrayClass_spec h
  exact ⟨cA, fun n z => ⟨fun k h => (by cases h), kA, h2, comp, h3⟩, h1⟩
/-- from the entry, for every script of at most 2561 ints, the law comes to its end with true -/
theorem whole_start {p : Program} {e : Env} {s : State} {m : MethodId} {below : List Frame} {meth : Method} {c : Code} (l : Launch) {b L : Nat} {xs : Nat → Int32} (hL : L ≤ 2561) (C0 : lw_At p s m meth c b L xs) : W p l e room_1 s m #[Value.ref b] below meth c s.heap [] 0 0 (lw_Z below #[Value.ref b] s) (entryFrame m ([Value.ref b] : List Value).toArray 4) := by
  obtain ⟨hx, hcode, hret, hml, hown, hts, hX, hbl, hlocks, hgv⟩ := C0
  have htsG : ∀ w ∈ xG, w.before #[Value.ref b] s = true := fun w hw => hts w (x_outG hw)
  obtain ⟨cI, hI1, hI2⟩ := law_arr (htsG _ x_arr.1)
  obtain ⟨cZ, hZ1, hZ2⟩ := law_arr (htsG _ x_arr.2)
  have hkn : ∀ ci, ∃ q : ClassId × (Nat → Nat), ci < 6 → u_Kn s (xc_n ci) (xc_T ci) (xc_N ci) q.1 q.2 := by
    intro ci
    by_cases h6 : ci < 6
    · obtain ⟨cC, iS, h⟩ := u_known (ws := xG) htsG (x_us ci h6) (htsG _ (x_ckl ci h6).1)
      exact ⟨(cC, iS), fun _ => h⟩
    · exact ⟨(0, fun _ => 0), fun h => absurd h h6⟩
  have hK : va_K (fun ci => (Classical.choose (hkn ci)).1, fun ci => (Classical.choose (hkn ci)).2) xcl [(cI, .int), (cZ, .boolean)] s := by
    refine ⟨fun ci q hq => ?_, fun k q hk => ?_⟩
    · have h6 := x_cl6 hq
      have e := hq.symm.trans (x_xcl h6)
      cases e
      exact Classical.choose_spec (hkn ci) h6
    · match k, hk with
      | 0, hk => cases hk; exact ⟨hI1, hI2⟩
      | 1, hk => cases hk; exact ⟨hZ1, hZ2⟩
      | k + 2, hk => simp at hk
  have hN : ∀ w ∈ x_nest, va_Nw w s := by
    intro w hw
    have h := hts w (x_nest_tbl w hw)
    obtain ⟨o, i, y, hh, rfl⟩ : ∃ o i y h, w = Cond.methodLinkNest o i y h := x_nest_form w hw
    exact va_Nw.of rfl h
  have C : x_CX 124 p s m #[Value.ref b] meth c (fun ci => (Classical.choose (hkn ci)).1, fun ci => (Classical.choose (hkn ci)).2) cI cZ (fun q => s.heap.size ≤ q) :=
    ⟨hx, hcode, hml, hown, htsG, hK, fun q h => h, hN, fun h => absurd h (show ¬ false = true by decide), xo_124⟩
  have hl := lv_entry ([Value.ref b] : List Value) (n := 4) (show 1 ≤ 4 by omega)
  rw [lg_entry_eq]
  refine law_V (L := L) (xs := xs) hL p l e s m #[Value.ref b] below meth c _ cI cZ (fun q => s.heap.size ≤ q) (lw_Z below #[Value.ref b] s) (fun _ => b) 0 C ?_ (fun _ => b) s.heap [] _ ⟨fun k q h => by simp [x_rl] at h, ⟨fun i j p q h => by simp [x_rl] at h, fun k q h => by simp [x_rl] at h⟩, va_S.rf, fun _ => rfl, x_ag.rf _ _, Nat.le_refl _, hX, hbl, Nat.not_le.mpr hbl⟩ hl
  intro v w ad H locs La pc ins hr hdc hq hG
  cases hq
  have hi : ins = .ireturn := by
    unfold x_ret at hr
    split at hr <;> first | rfl | cases hr
    all_goals rename_i h; first | cases h | skip
  subst hi
  refine va_forget hG.2.2.1.2.2 ?_
  exact lw_ret hx hcode hret hlocks hdc
set_option maxHeartbeats 4000000 in
theorem lw_walk (l : Launch) (b : Addr) (xs : List Int32) : MetFree l x (headSpec (Jvm.Cond.code x code maxLocals ret :: tables_1) room_1) (lw_P b xs) (fun _ _ _ _ _ => True) lw_Q := by
  refine MetFree.of_bodyS (code := code) (maxLocals := maxLocals) (ret := ret) (by decide) ?_ ?_
  · intro args s m h hn
    obtain ⟨meth, c, h1, h2, h3, h4, h5, h6, -, -⟩ := Cond.code_spec hn (atoms_spec (ws := Jvm.Cond.code x code maxLocals ret :: tables_1) h _ List.mem_cons_self)
    exact ⟨meth, c, h1, h2, h3, h4, h5, h6⟩
  · intro p e s m args below meth c s₁ B hml0 hP _
    obtain ⟨rfl, hx, hbd, hgv⟩ := hP
    obtain ⟨scr, harrAt, hlist, hof, hsmall⟩ := hx
    obtain ⟨hcb, hkn, -, -⟩ := State.arrayAt?_spec harrAt
    have hown : s.vm.findClass R_law = some m.cls := findClass_of_methodNamed B.named
    have hts0 : ∀ c ∈ (Jvm.Cond.code x code maxLocals ret :: tables_1), c.before #[Value.ref b] s = true := atoms_spec (ws := Jvm.Cond.code x code maxLocals ret :: tables_1) B.pre
    have hts : ∀ w ∈ lw_tbl, w.before #[Value.ref b] s = true := k2_hts_sels lw_privs (fun w hw => hts0 w (List.mem_cons_of_mem _ hw)) lw_privs_ok
    have hml : c.maxLocals = 4 := B.maxLocals_eq (hts0 _ List.mem_cons_self)
    have X₀ : Stand p l e room_1 s m #[Value.ref b] below meth c s₁ [] 0 0 := Stand.of_body B
    have hh0 : s₁.heap = s.heap := by rw [B.state]; rfl
    have hsz : scr.slots.size = xs.length := by rw [← Array.length_toList, hlist, List.length_map]
    have hval : ∀ j : Nat, j < xs.length → scr.slots[j]? = some (.int (xs.getD j 0)) := fun j hj => by
      rw [← Array.getElem?_toList, hlist]
      simp [hj]
    have hbl : b < s.heap.size := (Array.getElem?_eq_some_iff.mp hcb).1
    have hX : va_X b xs.length (fun j => xs.getD j 0) s s.heap := ⟨scr, hcb, hof, hkn, hsz, hval⟩
    have K : W p l e room_1 s m #[Value.ref b] below meth c s₁.heap [] 0 0 (lw_Z below #[Value.ref b] s) (entryFrame m ([Value.ref b] : List Value).toArray 4) := by
      rw [hh0]
      exact whole_start l hbd ⟨B.exec, B.bytes, B.returns, hml, hown, hts, hX, hbl, B.notSynchronized, hgv⟩
    obtain ⟨t, a1, o, b1, b2, b3⟩ := K s₁ rfl X₀
    exact ⟨t, o, a1, b1, b2, b3⟩
theorem lw_pre_spec {args : Array Value} {s : State} (h : (Jvm.Cond.and given_1 narrow_1).before args s = true) (hr : rest_1_c.before args s = true) : ∃ (b : Addr) (xs : List Int32), lw_P b xs args s := by
  have hs := flat_of_before _ h
  have hq := flat_of_before _ hr
  have hc : (Cond.count 1).before args s = true := hs _ (by decide +kernel)
  have harr : (Cond.arrayOf (.arg 0) .int).before args s = true := hs _ (by decide +kernel)
  have hle : (Cond.le (.length (.arg 0)) (.int 2561)).before args s = true := hs _ (by decide +kernel)
  have hlen : (Cond.isInt (.length (.arg 0))).before args s = true := hq _ (by decide +kernel)
  have hall : (Cond.all (.arg 0) (.isInt (.elem (.arg 0) (.index 0)))).before args s = true := hq _ (by decide +kernel)
  obtain ⟨b, xs, hb, hx⟩ := State.ints_of_pre rfl harr hlen hall
  have hsm : xs.length < 2 ^ 31 := hx.choose_spec.2.2.2
  have hev : (Term.length (.arg 0)).eval args s none [] s = some (.int xs.length.toInt32) := hx.length_eval hb
  have hv := Cond.le_ints hev (show (Term.int 2561).eval args s none [] s = some (.int 2561) from rfl)
  have hd : xs.length.toInt32 ≤ 2561 := by
    simpa [Cond.before, Cond.holds, hv] using hle
  have hN : xs.length ≤ 2561 := (Int32.ofNat_le_ofNat hsm (by decide)).mp (show Int32.ofNat xs.length ≤ Int32.ofNat 2561 from hd)
  exact ⟨b, xs, Cond.one_arg hc (show args[0]? = some (.ref b) from hb), hx, hN, h⟩
theorem lw_comes (l : Launch) : Comes l x (Jvm.Cond.code x code maxLocals ret :: tables_1) room_1 (fun tb e args s => Calls_1 tb e args s ∧ rest_1 tb e args s ∧ Pre_1 tb e args s)
    (fun _ _ args s o t => lw_Q args s o t) := by
  intro p e ha hc hk s m args below hf hfit hheap happ hpre
  obtain ⟨b, xs, hP⟩ := lw_pre_spec hpre.2.2 hpre.2.1
  obtain ⟨k, o, h1, h2, h3, hQ⟩ := lw_walk l b xs p e ha hc hk s m args below hf ((Spec.applies_iff_loose hf).mp happ).1 hP trivial
  exact ⟨k, o, h1, h2, h3, hQ⟩
theorem lw_frame {s t : State} {o : Outcome} {args : Array Value} (h : Framed s o t [] 600000 7302250) :
    Framed s o t (fieldLocs frame_1_writes args s ++ arrayLocs frame_1_arrays args s ++ staticLocs frame_1_statics s) 600000 7302250 := h
theorem lw_limb (L : Cond) (hL : ∀ (args : Array Value) (s t : State), L.after args s (.returned (some (.int 1))) t = true) :
    ArmFor flags0 classFile x code maxLocals ret World_1 tables_1 room_1 Calls_1 rest_1 Pre_1
      (fun tb e a s o t => postC L tb e a s o t ∧ Framed s o t (fieldLocs frame_1_writes a s ++ arrayLocs frame_1_arrays a s ++ staticLocs frame_1_statics s) 600000 7302250) := by
  intro l _ _ _ p e ha hc hk s m args below hf hfit hheap happ hpre
  obtain ⟨k, o, h1, h2, h3, rfl, hF⟩ := lw_comes l p e ha hc hk s m args below hf hfit hheap happ hpre
  exact ⟨k, _, h1, h2, h3, hL args s _, lw_frame hF⟩
theorem i_vc : Claimed_1_1 ∧ Claimed_1_2 := ⟨lw_limb limb_1_1 (fun args s t => by simp [limb_1_1, Cond.after, Cond.holds, Cond.value]), lw_limb limb_1_2 (fun args s t => Cond.after_iff.mpr (by
  first | (rw [show limb_1_2 = Cond.eq .result (.int 1) from rfl, Cond.eq_ints (x := 1) (y := 1) rfl rfl]; simp; done) | (simp [limb_1_2, Cond.value, Term.eval]; done)))⟩
end
