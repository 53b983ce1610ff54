/-! what an entry of a table must hold beside its decoding -/
def x_fit (k j : Nat) : Bool := Nat.ble ((xm_R j).frames + 1) (xm_R k).frames && Nat.ble (8 + (xm_L j + 11) + (xm_R j).locals) (xm_R k).locals
def x_cb (k a b : Nat) : Bool := x_fit k a && decide ((xm_y a).cls = xm_o a ∧ (xm_y a).cls ≠ "java/lang/invoke/MethodHandle" ∧ (xm_y a).cls ≠ "java/lang/invoke/VarHandle" ∧ (parseMethodDescriptor (xm_y a).desc).map (fun d => d.parameters.length) = some b)
def x_ex (k pc : Nat) (ins : Instr) (a b : Nat) : Prop := match ins with
  | .iconst i => Int32.ofInt i = x_ci i
  | .bipush i => (Int8.ofInt i).toInt32 = x_ci i
  | .sipush i => (Int16.ofInt i).toInt32 = x_ci i
  | .ldc2_w idx => (xm_c k, idx, a) ∈ x_cl
  | .istore_n i => i.val < xm_L k
  | .astore_n i => i.val < xm_L k
  | .istore i => i < xm_L k
  | .astore i => i < xm_L k
  | .lstore_n i => i.val + 1 < xm_L k
  | .lstore i => i + 1 < xm_L k
  | .iinc i d => i < xm_L k ∧ Int32.ofInt d = x_ci d
  | .goto off => (pc : Int) + off = (a : Int)
  | .ifCond _ off => (pc : Int) + off = (a : Int)
  | .if_icmp _ off => (pc : Int) + off = (a : Int)
  | .getfield idx => (xm_c k, idx, a, b) ∈ x_fl
  | .putfield idx => (xm_c k, idx, a, b) ∈ x_fl
  | .invokevirtual idx => (xm_c k, idx, a) ∈ x_lv ∧ x_cb k a b = true
  | .invokestatic idx => 900 ≤ a ∨ (((xm_c k, idx, a) ∈ x_ls ∧ xm_o a = xm_o k) ∨ (xm_c k, idx, a) ∈ x_ln) ∧ x_cb k a b = true
  | .invokespecial idx => 900 ≤ a ∨ (xm_c k, idx, a) ∈ x_li ∧ x_cb k a b = true ∧ (xm_y a).name = "<init>" ∧ xm_r a = none
  | .new idx => (xm_c k, idx, a) ∈ x_nw
  | _ => True
def x_exb (k pc : Nat) (ins : Instr) (a b : Nat) : Bool := match ins with
  | .iconst i => decide (Int32.ofInt i = x_ci i)
  | .bipush i => decide ((Int8.ofInt i).toInt32 = x_ci i)
  | .sipush i => decide ((Int16.ofInt i).toInt32 = x_ci i)
  | .ldc2_w idx => decide ((xm_c k, idx, a) ∈ x_cl)
  | .istore_n i => decide (i.val < xm_L k)
  | .astore_n i => decide (i.val < xm_L k)
  | .istore i => decide (i < xm_L k)
  | .astore i => decide (i < xm_L k)
  | .lstore_n i => decide (i.val + 1 < xm_L k)
  | .lstore i => decide (i + 1 < xm_L k)
  | .iinc i d => decide (i < xm_L k ∧ Int32.ofInt d = x_ci d)
  | .goto off => decide ((pc : Int) + off = (a : Int))
  | .ifCond _ off => decide ((pc : Int) + off = (a : Int))
  | .if_icmp _ off => decide ((pc : Int) + off = (a : Int))
  | .getfield idx => decide ((xm_c k, idx, a, b) ∈ x_fl)
  | .putfield idx => decide ((xm_c k, idx, a, b) ∈ x_fl)
  | .invokevirtual idx => decide ((xm_c k, idx, a) ∈ x_lv ∧ x_cb k a b = true)
  | .invokestatic idx => decide (900 ≤ a ∨ (((xm_c k, idx, a) ∈ x_ls ∧ xm_o a = xm_o k) ∨ (xm_c k, idx, a) ∈ x_ln) ∧ x_cb k a b = true)
  | .invokespecial idx => decide (900 ≤ a ∨ (xm_c k, idx, a) ∈ x_li ∧ x_cb k a b = true ∧ (xm_y a).name = "<init>" ∧ xm_r a = none)
  | .new idx => decide ((xm_c k, idx, a) ∈ x_nw)
  | _ => true
theorem x_ex_of {k pc : Nat} {ins : Instr} {a b : Nat} (h : x_exb k pc ins a b = true) : x_ex k pc ins a b := by
  unfold x_exb at h
  unfold x_ex
  split at h <;> first | trivial | exact of_decide_eq_true h
def x_ok (k pc : Nat) (q : xQ) : Prop := decode (xm_b k) pc = .ok (q.1, x_len q.1 q.2.2.2) ∧ q.2.1 = pc + x_len q.1 q.2.2.2 ∧ x_ex k pc q.1 q.2.2.1 q.2.2.2
def x_okb (k pc : Nat) (q : xQ) : Bool := decide (decode (xm_b k) pc = .ok (q.1, x_len q.1 q.2.2.2)) && (Nat.beq q.2.1 (pc + x_len q.1 q.2.2.2) && x_exb k pc q.1 q.2.2.1 q.2.2.2)
theorem x_find_mem {pc : Nat} {q : xQ} : ∀ {l : List (Nat × xQ)}, x_find pc l = some q → (pc, q) ∈ l
  | [], h => by simp [x_find] at h
  | e :: r, h => by
    simp only [x_find] at h
    cases hq : Nat.beq e.1 pc with
    | true =>
      rw [hq, cond_true] at h
      have := Nat.eq_of_beq_eq_true hq
      cases h
      subst this
      exact List.mem_cons_self
    | false =>
      rw [hq, cond_false] at h
      exact List.mem_cons_of_mem _ (x_find_mem h)
theorem x_ok_all {k : Nat} (h : ((xm k).2.2.2.2.2.2.2.all fun e => x_okb k e.1 e.2) = true) : ∀ pc q, xm_i k pc = some q → x_ok k pc q := by
  intro pc q hq
  have h1 := List.all_eq_true.mp h _ (x_find_mem hq)
  simp only [x_okb, Bool.and_eq_true, decide_eq_true_eq] at h1
  exact ⟨h1.1, Nat.eq_of_beq_eq_true h1.2.1, x_ex_of h1.2.2⟩
theorem x_lv_me : ∀ e ∈ x_lv, Cond.initialized (xm_o e.2.2) ∈ xG ∧ Cond.code (xm_y e.2.2) (xm_b e.2.2) (xm_L e.2.2) (xm_r e.2.2) ∈ xG ∧ Cond.instanceMethod (xm_y e.2.2) ∈ xG ∧ Cond.selects (xm_o e.2.2) (xm_y e.2.2) (xm_y e.2.2) ∈ xG := List.forall_mem_cons.mpr ⟨⟨x_ck_0.2, x_me_1⟩, List.forall_mem_cons.mpr ⟨⟨x_ck_0.2, x_me_2⟩, List.forall_mem_cons.mpr ⟨⟨x_ck_0.2, x_me_5⟩, List.forall_mem_cons.mpr ⟨⟨x_ck_0.2, x_me_6⟩, List.forall_mem_cons.mpr ⟨⟨x_ck_2.2, x_me_32⟩, List.forall_mem_cons.mpr ⟨⟨x_ck_0.2, x_me_8⟩, List.forall_mem_cons.mpr ⟨⟨x_ck_0.2, x_me_3⟩, List.forall_mem_cons.mpr ⟨⟨x_ck_3.2, x_me_46⟩, List.forall_mem_cons.mpr ⟨⟨x_ck_2.2, x_me_40⟩, List.forall_mem_cons.mpr ⟨⟨x_ck_0.2, x_me_18⟩, List.forall_mem_cons.mpr ⟨⟨x_ck_0.2, x_me_20⟩, List.forall_mem_cons.mpr ⟨⟨x_ck_0.2, x_me_22⟩, List.forall_mem_cons.mpr ⟨⟨x_ck_0.2, x_me_21⟩, List.forall_mem_cons.mpr ⟨⟨x_ck_0.2, x_me_23⟩, List.forall_mem_cons.mpr ⟨⟨x_ck_0.2, x_me_19⟩, List.forall_mem_cons.mpr ⟨⟨x_ck_0.2, x_me_16⟩, List.forall_mem_cons.mpr ⟨⟨x_ck_2.2, x_me_32⟩, List.forall_mem_cons.mpr ⟨⟨x_ck_2.2, x_me_31⟩, List.forall_mem_cons.mpr ⟨⟨x_ck_2.2, x_me_38⟩, List.forall_mem_cons.mpr ⟨⟨x_ck_3.2, x_me_45⟩, List.forall_mem_cons.mpr ⟨⟨x_ck_2.2, x_me_33⟩, List.forall_mem_cons.mpr ⟨⟨x_ck_2.2, x_me_36⟩, List.forall_mem_cons.mpr ⟨⟨x_ck_2.2, x_me_37⟩, List.forall_mem_cons.mpr ⟨⟨x_ck_3.2, x_me_48⟩, List.forall_mem_cons.mpr ⟨⟨x_ck_4.2, x_me_77⟩, List.forall_mem_cons.mpr ⟨⟨x_ck_2.2, x_me_39⟩, List.forall_mem_cons.mpr ⟨⟨x_ck_4.2, x_me_75⟩, List.forall_mem_cons.mpr ⟨⟨x_ck_2.2, x_me_38⟩, List.forall_mem_cons.mpr ⟨⟨x_ck_2.2, x_me_36⟩, List.forall_mem_cons.mpr ⟨⟨x_ck_2.2, x_me_37⟩, List.forall_mem_cons.mpr ⟨⟨x_ck_2.2, x_me_32⟩, List.forall_mem_cons.mpr ⟨⟨x_ck_4.2, x_me_74⟩, List.forall_mem_cons.mpr ⟨⟨x_ck_2.2, x_me_34⟩, List.forall_mem_cons.mpr ⟨⟨x_ck_2.2, x_me_35⟩, List.forall_mem_cons.mpr ⟨⟨x_ck_1.2, x_me_28⟩, List.forall_mem_cons.mpr ⟨⟨x_ck_4.2, x_me_78⟩, List.forall_mem_cons.mpr ⟨⟨x_ck_3.2, x_me_43⟩, List.forall_mem_cons.mpr ⟨⟨x_ck_0.2, x_me_14⟩, List.forall_mem_cons.mpr ⟨⟨x_ck_0.2, x_me_16⟩, List.forall_mem_cons.mpr ⟨⟨x_ck_4.2, x_me_76⟩, List.forall_mem_cons.mpr ⟨⟨x_ck_2.2, x_me_30⟩, List.forall_mem_cons.mpr ⟨⟨x_ck_0.2, x_me_7⟩, List.forall_mem_cons.mpr ⟨⟨x_ck_0.2, x_me_1⟩, List.forall_mem_cons.mpr ⟨⟨x_ck_0.2, x_me_2⟩, List.forall_mem_cons.mpr ⟨⟨x_ck_0.2, x_me_3⟩, List.forall_mem_cons.mpr ⟨⟨x_ck_0.2, x_me_8⟩, List.forall_mem_cons.mpr ⟨⟨x_ck_0.2, x_me_9⟩, List.forall_mem_cons.mpr ⟨⟨x_ck_0.2, x_me_10⟩, List.forall_mem_cons.mpr ⟨⟨x_ck_0.2, x_me_11⟩, List.forall_mem_cons.mpr ⟨⟨x_ck_0.2, x_me_4⟩, List.forall_mem_cons.mpr ⟨⟨x_ck_0.2, x_me_12⟩, List.forall_mem_cons.mpr ⟨⟨x_ck_0.2, x_me_13⟩, List.forall_mem_cons.mpr ⟨⟨x_ck_1.2, x_me_25⟩, List.forall_mem_cons.mpr ⟨⟨x_ck_2.2, x_me_41⟩, List.forall_mem_cons.mpr ⟨⟨x_ck_4.2, x_me_80⟩, List.forall_mem_cons.mpr ⟨⟨x_ck_3.2, x_me_47⟩, List.forall_mem_cons.mpr ⟨⟨x_ck_3.2, x_me_48⟩, List.forall_mem_cons.mpr ⟨⟨x_ck_3.2, x_me_49⟩, List.forall_mem_cons.mpr ⟨⟨x_ck_3.2, x_me_44⟩, List.forall_mem_cons.mpr ⟨⟨x_ck_4.2, x_me_83⟩, List.forall_mem_cons.mpr ⟨⟨x_ck_2.2, x_me_33⟩, List.forall_mem_cons.mpr ⟨⟨x_ck_3.2, x_me_46⟩, List.forall_mem_cons.mpr ⟨⟨x_ck_0.2, x_me_17⟩, List.forall_mem_cons.mpr ⟨⟨x_ck_4.2, x_me_79⟩, List.forall_mem_cons.mpr ⟨⟨x_ck_4.2, x_me_81⟩, List.forall_mem_cons.mpr ⟨⟨x_ck_4.2, x_me_82⟩, List.forall_mem_cons.mpr ⟨⟨x_ck_0.2, x_me_15⟩, List.forall_mem_cons.mpr ⟨⟨x_ck_1.2, x_me_26⟩, List.forall_mem_cons.mpr ⟨⟨x_ck_1.2, x_me_27⟩, List.forall_mem_cons.mpr ⟨⟨x_ck_4.2, x_me_84⟩, List.forall_mem_cons.mpr ⟨⟨x_ck_3.2, x_me_45⟩, List.forall_mem_cons.mpr ⟨⟨x_ck_5.2, x_me_90⟩, List.forall_mem_cons.mpr ⟨⟨x_ck_5.2, x_me_89⟩, List.forall_mem_cons.mpr ⟨⟨x_ck_5.2, x_me_91⟩, List.forall_mem_cons.mpr ⟨⟨x_ck_5.2, x_me_92⟩, List.forall_mem_cons.mpr ⟨⟨x_ck_5.2, x_me_93⟩, List.forall_mem_cons.mpr ⟨⟨x_ck_5.2, x_me_95⟩, List.forall_mem_cons.mpr ⟨⟨x_ck_5.2, x_me_98⟩, List.forall_mem_cons.mpr ⟨⟨x_ck_5.2, x_me_97⟩, List.forall_mem_cons.mpr ⟨⟨x_ck_5.2, x_me_96⟩, List.forall_mem_cons.mpr ⟨⟨x_ck_5.2, x_me_99⟩, List.forall_mem_cons.mpr ⟨⟨x_ck_5.2, x_me_100⟩, List.forall_mem_cons.mpr ⟨⟨x_ck_5.2, x_me_94⟩, List.forall_mem_cons.mpr ⟨⟨x_ck_5.2, x_me_102⟩, List.forall_mem_cons.mpr ⟨⟨x_ck_5.2, x_me_108⟩, List.forall_mem_cons.mpr ⟨⟨x_ck_5.2, x_me_119⟩, List.forall_mem_cons.mpr ⟨⟨x_ck_5.2, x_me_118⟩, List.forall_mem_cons.mpr ⟨⟨x_ck_4.2, x_me_51⟩, List.forall_mem_cons.mpr ⟨⟨x_ck_5.2, x_me_101⟩, List.forall_mem_cons.mpr ⟨⟨x_ck_4.2, x_me_52⟩, List.forall_mem_cons.mpr ⟨⟨x_ck_5.2, x_me_103⟩, List.forall_mem_cons.mpr ⟨⟨x_ck_4.2, x_me_53⟩, List.forall_mem_cons.mpr ⟨⟨x_ck_5.2, x_me_104⟩, List.forall_mem_cons.mpr ⟨⟨x_ck_4.2, x_me_54⟩, List.forall_mem_cons.mpr ⟨⟨x_ck_5.2, x_me_105⟩, List.forall_mem_cons.mpr ⟨⟨x_ck_4.2, x_me_55⟩, List.forall_mem_cons.mpr ⟨⟨x_ck_5.2, x_me_106⟩, List.forall_mem_cons.mpr ⟨⟨x_ck_4.2, x_me_56⟩, List.forall_mem_cons.mpr ⟨⟨x_ck_5.2, x_me_107⟩, List.forall_mem_cons.mpr ⟨⟨x_ck_4.2, x_me_57⟩, List.forall_mem_cons.mpr ⟨⟨x_ck_5.2, x_me_109⟩, List.forall_mem_cons.mpr ⟨⟨x_ck_4.2, x_me_58⟩, List.forall_mem_cons.mpr ⟨⟨x_ck_5.2, x_me_110⟩, List.forall_mem_cons.mpr ⟨⟨x_ck_4.2, x_me_59⟩, List.forall_mem_cons.mpr ⟨⟨x_ck_5.2, x_me_111⟩, List.forall_mem_cons.mpr ⟨⟨x_ck_4.2, x_me_60⟩, List.forall_mem_cons.mpr ⟨⟨x_ck_5.2, x_me_112⟩, List.forall_mem_cons.mpr ⟨⟨x_ck_4.2, x_me_61⟩, List.forall_mem_cons.mpr ⟨⟨x_ck_5.2, x_me_113⟩, List.forall_mem_cons.mpr ⟨⟨x_ck_4.2, x_me_62⟩, List.forall_mem_cons.mpr ⟨⟨x_ck_5.2, x_me_114⟩, List.forall_mem_cons.mpr ⟨⟨x_ck_4.2, x_me_63⟩, List.forall_mem_cons.mpr ⟨⟨x_ck_5.2, x_me_115⟩, List.forall_mem_cons.mpr ⟨⟨x_ck_4.2, x_me_64⟩, List.forall_mem_cons.mpr ⟨⟨x_ck_5.2, x_me_116⟩, List.forall_mem_cons.mpr ⟨⟨x_ck_4.2, x_me_65⟩, List.forall_mem_cons.mpr ⟨⟨x_ck_5.2, x_me_117⟩, List.forall_mem_cons.mpr ⟨⟨x_ck_4.2, x_me_66⟩, List.forall_mem_cons.mpr ⟨⟨x_ck_5.2, x_me_120⟩, List.forall_mem_cons.mpr ⟨⟨x_ck_4.2, x_me_67⟩, List.forall_mem_cons.mpr ⟨⟨x_ck_5.2, x_me_121⟩, List.forall_mem_cons.mpr ⟨⟨x_ck_4.2, x_me_68⟩, List.forall_mem_cons.mpr ⟨⟨x_ck_5.2, x_me_122⟩, fun _ h => absurd h List.not_mem_nil⟩⟩⟩⟩⟩⟩⟩⟩⟩⟩⟩⟩⟩⟩⟩⟩⟩⟩⟩⟩⟩⟩⟩⟩⟩⟩⟩⟩⟩⟩⟩⟩⟩⟩⟩⟩⟩⟩⟩⟩⟩⟩⟩⟩⟩⟩⟩⟩⟩⟩⟩⟩⟩⟩⟩⟩⟩⟩⟩⟩⟩⟩⟩⟩⟩⟩⟩⟩⟩⟩⟩⟩⟩⟩⟩⟩⟩⟩⟩⟩⟩⟩⟩⟩⟩⟩⟩⟩⟩⟩⟩⟩⟩⟩⟩⟩⟩⟩⟩⟩⟩⟩⟩⟩⟩⟩⟩⟩⟩⟩⟩⟩⟩⟩⟩⟩⟩⟩⟩⟩⟩⟩⟩
theorem x_ls_me : ∀ e ∈ x_ls, Cond.initialized (xm_o e.2.2) ∈ xG ∧ Cond.code (xm_y e.2.2) (xm_b e.2.2) (xm_L e.2.2) (xm_r e.2.2) ∈ xG ∧ Cond.static (xm_y e.2.2) ∈ xG := List.forall_mem_cons.mpr ⟨⟨x_ck_4.2, x_me_73⟩, List.forall_mem_cons.mpr ⟨⟨x_ck_4.2, x_me_72⟩, List.forall_mem_cons.mpr ⟨⟨x_ck_4.2, x_me_69⟩, List.forall_mem_cons.mpr ⟨⟨x_ck_4.2, x_me_70⟩, List.forall_mem_cons.mpr ⟨⟨x_ck_5.2, x_me_86⟩, List.forall_mem_cons.mpr ⟨⟨x_ck_5.2, x_me_88⟩, List.forall_mem_cons.mpr ⟨⟨x_ck_5.2, x_me_87⟩, List.forall_mem_cons.mpr ⟨⟨x_ck_6, x_me_123⟩, fun _ h => absurd h List.not_mem_nil⟩⟩⟩⟩⟩⟩⟩⟩
theorem x_ln_me : ∀ e ∈ x_ln, Cond.initialized (xm_o e.2.2) ∈ xG ∧ Cond.code (xm_y e.2.2) (xm_b e.2.2) (xm_L e.2.2) (xm_r e.2.2) ∈ xG ∧ Cond.static (xm_y e.2.2) ∈ xG := List.forall_mem_cons.mpr ⟨⟨x_ck_4.2, x_me_71⟩, List.forall_mem_cons.mpr ⟨⟨x_ck_4.2, x_me_70⟩, List.forall_mem_cons.mpr ⟨⟨x_ck_4.2, x_me_69⟩, List.forall_mem_cons.mpr ⟨⟨x_ck_4.2, x_me_69⟩, fun _ h => absurd h List.not_mem_nil⟩⟩⟩⟩
theorem x_li_me : ∀ e ∈ x_li, Cond.initialized (xm_o e.2.2) ∈ xG ∧ Cond.code (xm_y e.2.2) (xm_b e.2.2) (xm_L e.2.2) (xm_r e.2.2) ∈ xG ∧ Cond.instanceMethod (xm_y e.2.2) ∈ xG := List.forall_mem_cons.mpr ⟨⟨x_ck_2.2, x_me_29⟩, List.forall_mem_cons.mpr ⟨⟨x_ck_3.2, x_me_42⟩, List.forall_mem_cons.mpr ⟨⟨x_ck_1.2, x_me_24⟩, List.forall_mem_cons.mpr ⟨⟨x_ck_0.2, x_me_0⟩, List.forall_mem_cons.mpr ⟨⟨x_ck_4.2, x_me_50⟩, List.forall_mem_cons.mpr ⟨⟨x_ck_5.2, x_me_85⟩, fun _ h => absurd h List.not_mem_nil⟩⟩⟩⟩⟩⟩
