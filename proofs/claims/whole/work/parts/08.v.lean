theorem x_us (ci : Nat) (h : ci < 6) : ∀ w ∈ u_ws (xc_n ci) (xc_T ci) (xc_N ci), w ∈ xG := by
  match ci, h with
  | 0, _ => exact x_us_0
  | 1, _ => exact x_us_1
  | 2, _ => exact x_us_2
  | 3, _ => exact x_us_3
  | 4, _ => exact x_us_4
  | 5, _ => exact x_us_5
  | n + 6, h => omega
theorem x_cl6 {ci : Nat} {q : vw_C} (h : xcl[ci]? = some q) : ci < 6 := (List.getElem?_eq_some_iff.mp h).1
theorem x_nmo (ci : Nat) (h : ci < 6) : ∀ a, a < xc_N ci → ∀ b, b < xc_N ci → a ≠ b → (xc_T ci a).2.1 ≠ (xc_T ci b).2.1 := by
  match ci, h with
  | 0, _ => exact nmX0
  | 1, _ => exact nmX1
  | 2, _ => exact nmX2
  | 3, _ => exact nmX3
  | 4, _ => exact nmX4
  | 5, _ => exact nmX5
  | n + 6, h => omega
theorem x_tyo (ci : Nat) (h : ci < 6) : ∀ k, k < xc_N ci → parseFieldDescriptor (xc_T ci k).2.2.1 = some (xc_t ci k) := by
  match ci, h with
  | 0, _ => exact tyX0_ok
  | 1, _ => exact tyX1_ok
  | 2, _ => exact tyX2_ok
  | 3, _ => exact tyX3_ok
  | 4, _ => exact tyX4_ok
  | 5, _ => exact tyX5_ok
  | n + 6, h => omega
/-! THE JUDGEMENT V: method k, at pc, with locals ls, stack st and world w, comes to its end with Q -/
def x_XO (X : Option (Nat × (Nat → Int32))) (A : Nat → Prop) (s : State) (ad : Nat → Nat) : Prop := match X with
  | none => True
  | some q => va_X (ad 999) q.1 q.2 s s.heap ∧ ad 999 < s.heap.size ∧ ¬ A (ad 999)
def x_ret (r : Option FieldType) (v : Option Value) (ins : Instr) : Prop := match r, v, ins with
  | none, none, .return_ => True
  | some .int, some (.int _), .ireturn => True
  | some .boolean, some (.int x), .ireturn => narrow .boolean (.int x) = .int x
  | some .long, some (.long _), .lreturn => True
  | _, _, _ => False
def x_CX (k : Nat) (p : Program) (s : State) (m : MethodId) (args : Array Value) (meth : Method) (c : Code) (D : va_G) (cI cZ : ClassId) (A : Nat → Prop) : Prop :=
  p.tables.exec = Jvm.exec ∧ c.code = xm_b k ∧ c.maxLocals = xm_L k ∧ s.vm.findClass (xm_o k) = some m.cls ∧ (∀ w ∈ xG, w.before args s = true) ∧ va_K D xcl [(cI, .int), (cZ, .boolean)] s ∧ (∀ q, s.heap.size ≤ q → A q) ∧ (∀ w ∈ x_nest, va_Nw w s) ∧ (xm_n k = true → meth.name = "<init>") ∧ ∀ pc q, xm_i k pc = some q → x_ok k pc q
def x_G (X : Option (Nat × (Nat → Int32))) (k : Nat) (D : va_G) (cI cZ : ClassId) (A : Nat → Prop) (s : State) (ad0 : Nat → Nat) (n0 : Nat) (ad : Nat → Nat) (w : xW) (H : Heap) (locs : List Loc) : Prop :=
  va_P D xcl (x_rl cI cZ ad 0 w) H ∧ va_D A (x_rl cI cZ ad 0 w) ∧ va_S A s.heap H locs ∧ (xm_a k = false → ad = ad0) ∧ x_ag n0 ad0 ad ∧ n0 ≤ w.length ∧ x_XO X A s ad
def V (X : Option (Nat × (Nat → Int32))) (k : Nat) (Q : Option Value → xW → Prop) (n : Nat × Nat) (pc : Nat) (ls : xL) (st : List Value) (w : xW) : Prop :=
  ∀ (p : Program) (l : Launch) (e : Env) (s : State) (m : MethodId) (args : Array Value) (below : List Frame) (meth : Method) (c : Code) (D : va_G) (cI cZ : ClassId) (A : Nat → Prop) (QQ : State → Prop) (ad0 : Nat → Nat) (n0 : Nat),
    x_CX k p s m args meth c D cI cZ A →
    (∀ (v : Option Value) (w : xW) (ad : Nat → Nat) (H : Heap) (locs : List Loc) (La : Array Slot) (pc : Nat) (ins : Instr), x_ret (xm_r k) v ins → decode (xm_b k) pc = .ok (ins, 1) → Q v w → x_G X k D cI cZ A s ad0 n0 ad w H locs → W p l e (xm_R k) s m args below meth c H locs (xm_R k).cells (xm_R k).slots QQ (F0 m pc La ((v.map (x_tr ad)).toList))) →
    ∀ (ad : Nat → Nat) (H : Heap) (locs : List Loc) (La : Array Slot), x_G X k D cI cZ A s ad0 n0 ad w H locs → lv_has La (xm_L k) (ls.map (x_trp ad)) →
      W p l e (xm_R k) s m args below meth c H locs n.1 n.2 QQ (F0 m pc La (st.map (x_tr ad)))
section VR
variable {X : Option (Nat × (Nat → Int32))} {k : Nat} {Q : Option Value → xW → Prop} {n : Nat × Nat} {pc nx a b : Nat} {ls : xL} {st : List Value} {w : xW} {ins : Instr}
/-- a row that changes the stack alone -/
theorem V.keep {st' : List Value} (hd : xm_i k pc = some (ins, nx, a, b)) (kk : V X k Q n nx ls st' w)
    (h : ∀ {p : Program} {l : Launch} {e : Env} {R : Room} {s : State} {m : MethodId} {args : Array Value} {below : List Frame} {meth : Method} {c : Code} {H : Heap} {locs : List Loc} {cells slots : Nat} {QQ : State → Prop} {La : Array Slot} {D : va_G} {cI cZ : ClassId} {A : Nat → Prop} (ad : Nat → Nat), x_CX k p s m args meth c D cI cZ A → decode (xm_b k) pc = .ok (ins, x_len ins b) → x_ex k pc ins a b →
      W p l e R s m args below meth c H locs cells slots QQ (F0 m (pc + x_len ins b) La (st'.map (x_tr ad))) → W p l e R s m args below meth c H locs cells slots QQ (F0 m pc La (st.map (x_tr ad))))
    : V X k Q n pc ls st w := by
  intro p l e s m args below meth c D cI cZ A QQ ad0 n0 C hR ad H locs La hG hl
  obtain ⟨hdc, hnx, hex⟩ := C.2.2.2.2.2.2.2.2.2 pc _ hd
  dsimp only at hdc hnx hex
  subst hnx
  exact h ad C hdc hex (kk p l e s m args below meth c D cI cZ A QQ ad0 n0 C hR ad H locs La hG hl)
/-- a row that reads a local -/
theorem V.load {v : Value} {i : Nat} (hd : xm_i k pc = some (ins, nx, a, b)) (hv : x_lk i ls = some v)
    (h : ∀ {p : Program} {l : Launch} {e : Env} {R : Room} {s : State} {m : MethodId} {args : Array Value} {below : List Frame} {meth : Method} {c : Code} {H : Heap} {locs : List Loc} {cells slots : Nat} {QQ : State → Prop} {La : Array Slot} {D : va_G} {cI cZ : ClassId} {A : Nat → Prop} (ad : Nat → Nat), x_CX k p s m args meth c D cI cZ A → decode (xm_b k) pc = .ok (ins, x_len ins b) → La[i]? = some (.val (x_tr ad v)) →
      W p l e R s m args below meth c H locs cells slots QQ (F0 m (pc + x_len ins b) La (x_tr ad v :: st.map (x_tr ad))) → W p l e R s m args below meth c H locs cells slots QQ (F0 m pc La (st.map (x_tr ad))))
    (kk : V X k Q n nx ls (v :: st) w) : V X k Q n pc ls st w := by
  intro p l e s m args below meth c D cI cZ A QQ ad0 n0 C hR ad H locs La hG hl
  obtain ⟨hdc, hnx, hex⟩ := C.2.2.2.2.2.2.2.2.2 pc _ hd
  dsimp only at hdc hnx hex
  subst hnx
  exact h ad C hdc (x_has_at hl hv) (kk p l e s m args below meth c D cI cZ A QQ ad0 n0 C hR ad H locs La hG hl)
/-- a row that writes a local of one word -/
theorem V.store {v : Value} {i : Nat} {st' : List Value} (hd : xm_i k pc = some (ins, nx, a, b)) (hc : x_c2 v = false)
    (h : ∀ {p : Program} {l : Launch} {e : Env} {R : Room} {s : State} {m : MethodId} {args : Array Value} {below : List Frame} {meth : Method} {c : Code} {H : Heap} {locs : List Loc} {cells slots : Nat} {QQ : State → Prop} {La : Array Slot} {D : va_G} {cI cZ : ClassId} {A : Nat → Prop} (ad : Nat → Nat), x_CX k p s m args meth c D cI cZ A → decode (xm_b k) pc = .ok (ins, x_len ins b) → x_ex k pc ins a b → lv_has La (xm_L k) (ls.map (x_trp ad)) →
      (∀ La' : Array Slot, lv_has La' (xm_L k) ((i, x_tr ad v) :: (ls.map (x_trp ad)).filter (fun q => !(q.1 == i) && !(q.1 + 1 == i && q.2.category == 2))) → W p l e R s m args below meth c H locs cells slots QQ (F0 m (pc + x_len ins b) La' (st'.map (x_tr ad)))) → W p l e R s m args below meth c H locs cells slots QQ (F0 m pc La (st.map (x_tr ad))))
    (kk : V X k Q n nx (x_st i v ls) st' w) : V X k Q n pc ls st w := by
  intro p l e s m args below meth c D cI cZ A QQ ad0 n0 C hR ad H locs La hG hl
  obtain ⟨hdc, hnx, hex⟩ := C.2.2.2.2.2.2.2.2.2 pc _ hd
  dsimp only at hdc hnx hex
  subst hnx
  exact h ad C hdc hex hl (fun La' h' => kk p l e s m args below meth c D cI cZ A QQ ad0 n0 C hR ad H locs La' hG (x_store1 (La := La) hc h'))
theorem V.store2 {v : Value} {i : Nat} {st' : List Value} (hd : xm_i k pc = some (ins, nx, a, b)) (hc : x_c2 v = true)
    (h : ∀ {p : Program} {l : Launch} {e : Env} {R : Room} {s : State} {m : MethodId} {args : Array Value} {below : List Frame} {meth : Method} {c : Code} {H : Heap} {locs : List Loc} {cells slots : Nat} {QQ : State → Prop} {La : Array Slot} {D : va_G} {cI cZ : ClassId} {A : Nat → Prop} (ad : Nat → Nat), x_CX k p s m args meth c D cI cZ A → decode (xm_b k) pc = .ok (ins, x_len ins b) → x_ex k pc ins a b → lv_has La (xm_L k) (ls.map (x_trp ad)) →
      (∀ La' : Array Slot, lv_has La' (xm_L k) ((i, x_tr ad v) :: (ls.map (x_trp ad)).filter (fun q => !(q.1 == i) && (!(q.1 == i + 1) && !(q.1 + 1 == i && q.2.category == 2)))) → W p l e R s m args below meth c H locs cells slots QQ (F0 m (pc + x_len ins b) La' (st'.map (x_tr ad)))) → W p l e R s m args below meth c H locs cells slots QQ (F0 m pc La (st.map (x_tr ad))))
    (kk : V X k Q n nx (x_st i v ls) st' w) : V X k Q n pc ls st w := by
  intro p l e s m args below meth c D cI cZ A QQ ad0 n0 C hR ad H locs La hG hl
  obtain ⟨hdc, hnx, hex⟩ := C.2.2.2.2.2.2.2.2.2 pc _ hd
  dsimp only at hdc hnx hex
  subst hnx
  exact h ad C hdc hex hl (fun La' h' => kk p l e s m args below meth c D cI cZ A QQ ad0 n0 C hR ad H locs La' hG (x_store2 (La := La) hc h'))
end VR
