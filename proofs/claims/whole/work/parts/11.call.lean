/-! THE CONTRACT Tot: method k, called with the values 'as' in the world w, ends with Q -/
def x_XU (X : Option (Nat × (Nat → Int32))) (A : Nat → Prop) (sz : Nat) (U : State) (ad : Nat → Nat) : Prop := match X with
  | none => True
  | some q => va_X (ad 999) q.1 q.2 U U.heap ∧ ad 999 < sz ∧ ¬ A (ad 999)
def x_PU (X : Option (Nat × (Nat → Int32))) (D : va_G) (cI cZ : ClassId) (ad : Nat → Nat) (w : xW) (sz : Nat) (U : State) : Prop :=
  U.heap.size = sz ∧ va_P D xcl (x_rl cI cZ ad 0 w) U.heap ∧ va_K D xcl [(cI, .int), (cZ, .boolean)] U ∧ va_D (fun _ => True) (x_rl cI cZ ad 0 w) ∧ (∀ w ∈ x_nest, va_Nw w U) ∧ x_XU X (va_A (x_rl cI cZ ad 0 w) sz) sz U ad
def x_QU (k : Nat) (D : va_G) (cI cZ : ClassId) (ad : Nat → Nat) (w : xW) (sz : Nat) (Q : Option Value → xW → Prop) : Array Value → State → Outcome → State → Prop := fun _ st o t =>
  (∃ (v : Option Value) (w' : xW) (ad' : Nat → Nat), o = .returned (v.map (x_tr ad')) ∧ Q v w' ∧ (xm_a k = false → ad' = ad) ∧ x_ag w.length ad ad' ∧ w.length ≤ w'.length ∧ va_P D xcl (x_rl cI cZ ad' 0 w') t.heap ∧ va_D (va_A (x_rl cI cZ ad 0 w) sz) (x_rl cI cZ ad' 0 w')) ∧ va_F (va_A (x_rl cI cZ ad 0 w) sz) st t
def Tot (X : Option (Nat × (Nat → Int32))) (k : Nat) (as : List Value) (w : xW) (Q : Option Value → xW → Prop) : Prop :=
  ∀ (l : Launch) (D : va_G) (cI cZ : ClassId) (ad : Nat → Nat) (sz : Nat), Met l (xm_y k) (xm_w k) (xm_R k) (va_Pc (as.map (x_tr ad)) (x_PU X D cI cZ ad w sz)) (x_QU k D cI cZ ad w sz Q) (xm_R k).cells (xm_R k).slots (va_A (x_rl cI cZ ad 0 w) sz)
theorem Tot.mono {X : Option (Nat × (Nat → Int32))} {k : Nat} {as : List Value} {w : xW} {Q Q' : Option Value → xW → Prop} (h : Tot X k as w Q) (hq : ∀ v w', Q v w' → Q' v w') : Tot X k as w Q' := by
  intro l D cI cZ ad sz
  intro p e ha hc hk s m args below hf happ hP hK
  obtain ⟨n, o, g1, g2, g3, ⟨⟨v, w', ad', h1, h2, h3⟩, h4⟩, h5⟩ := h l D cI cZ ad sz p e ha hc hk s m args below hf happ hP hK
  exact ⟨n, o, g1, g2, g3, ⟨⟨v, w', ad', h1, hq v w' h2, h3⟩, h4⟩, h5⟩
theorem x_sl_len (ad : Nat → Nat) (vs : List Value) : (lg_sl (vs.map (x_tr ad))).length = (lg_sl vs).length := by
  induction vs with
  | nil => rfl
  | cons v vs ih =>
    simp only [lg_sl, List.map_cons, List.flatMap_cons, List.length_append] at ih ⊢
    rw [ih, x_cat]
    split <;> rfl
/-- a method's contract out of the walk of its body -/
theorem Tot.of {X : Option (Nat × (Nat → Int32))} {k : Nat} {as : List Value} {w : xW} {Q : Option Value → xW → Prop} (ok : ∀ pc q, xm_i k pc = some q → x_ok k pc q) (hp : plainName (xm_y k).cls = true) (ho : xm_o k = (xm_y k).cls) (hn : xm_n k = true → (xm_y k).name = "<init>") (hL : (lg_sl as).length ≤ xm_L k)
    (h : V X k Q (0, 0) 0 (lv_args 0 as) [] w) : Tot X k as w Q := by
  intro l D cI cZ ad sz
  refine Met.ofW (cc := xm_b k) (maxL := xm_L k) (ret := xm_r k) hp rfl ?_
  intro p e s m args below meth c s₁ B hml hv
  obtain ⟨rfl, hsz, hP, hK, hD0, hN, hX⟩ := hv
  subst hsz
  have hown : s.vm.findClass (xm_o k) = some m.cls := by rw [ho]; exact findClass_of_methodNamed B.named
  have hts := atoms_spec (ws := xm_w k) B.pre
  have hD := hD0.self (sz := s.heap.size)
  have C : x_CX k p s m (as.map (x_tr ad)).toArray meth c D cI cZ (va_A (x_rl cI cZ ad 0 w) s.heap.size) :=
    ⟨B.exec, B.bytes, hml, hown, fun w h => hts w (List.mem_cons_of_mem _ h), hK, fun q h => Or.inr h, hN, fun h => ((name_of_methodNamed B.named B.method).1).trans (hn h), ok⟩
  have hl := lv_entry (as.map (x_tr ad)) (n := xm_L k) (by rw [x_sl_len]; exact hL)
  rw [lg_entry_eq]
  rw [x_args_tr] at hl
  refine h p l e s m _ below meth c D cI cZ _ _ ad w.length C ?_ ad s.heap [] _ ⟨hP, hD, va_S.rf, fun _ => rfl, x_ag.rf _ _, Nat.le_refl _, ?_⟩ hl
  · intro v w' ad' H locs La pc ins hr hdc hq hG
    obtain ⟨h1, h2, h3, h4, h5, h6, h7⟩ := hG
    have hret := B.returns
    have hlocks := B.notSynchronized
    have key : ∀ t : State, t.heap = H → s.WarmedH t.vm → x_QU k D cI cZ ad w s.heap.size Q (as.map (x_tr ad)).toArray s (.returned (v.map (x_tr ad'))) t := fun t ht hW =>
      ⟨⟨v, w', ad', rfl, hq, h4, h5, h6, by rw [ht]; exact h1, h2⟩, h3.F ht⟩
    unfold x_ret at hr
    split at hr
    · rename_i hr0
      exact W.vret B.exec B.bytes (hret.trans hr0) key h3.2.2 hdc
    · rename_i hr0
      exact W.iret B.exec B.bytes (hret.trans hr0) key h3.2.2 hdc
    · rename_i hr0
      exact W.zret B.exec B.bytes (hret.trans hr0) hr key h3.2.2 hdc
    · rename_i hr0
      exact W.lret B.exec B.bytes (hret.trans hr0) key h3.2.2 hdc
    · cases hr
  · cases X with
    | none => trivial
    | some q => exact hX

/-- the caller's words are the callee's -/
theorem x_good {j : Nat} (h : Cond.code (xm_y j) (xm_b j) (xm_L j) (xm_r j) ∈ xG) : GoodIn xG (xm_w j) := by
  intro w hw
  rcases List.mem_cons.mp hw with e | hw
  · subst e
    exact ⟨h, good_of_word rfl⟩
  · exact ⟨hw, good_of_word (List.mem_filter.mp hw).2⟩
theorem x_good_app {j : Nat} {l : List Cond} (h : Cond.code (xm_y j) (xm_b j) (xm_L j) (xm_r j) ∈ xG) (hl : ∀ w ∈ l, w ∈ xG) : GoodIn xG (l ++ xm_w j) := by
  intro w hw
  rcases List.mem_append.mp hw with h1 | h1
  · exact ⟨hl w h1, good_of_word (List.mem_filter.mp (hl w h1)).2⟩
  · exact x_good h w h1
theorem x_nest_form : ∀ w ∈ x_nest, ∃ o i y h, w = Cond.methodLinkNest o i y h := by
  intro w hw
  simp only [x_nest, List.mem_cons, List.not_mem_nil, or_false] at hw
  rcases hw with rfl | rfl | rfl | rfl <;> exact ⟨_, _, _, _, rfl⟩
theorem x_xcl {ci : Nat} (h : ci < 6) : xcl[ci]? = some (xc_n ci, xc_T ci, xc_N ci) := by
  match ci, h with
  | 0, _ => rfl
  | 1, _ => rfl
  | 2, _ => rfl
  | 3, _ => rfl
  | 4, _ => rfl
  | 5, _ => rfl
  | n + 6, h => omega
section VC
variable {X X' : Option (Nat × (Nat → Int32))} {k : Nat} {Q : Option Value → xW → Prop} {n : Nat × Nat} {pc nx a b : Nat} {ls : xL} {st : List Value} {w : xW} {ins : Instr}
/-- what must hold of the caller's values where the callee may make cells -/
def x_al (k j : Nat) (w : xW) (ls : xL) (rest : List Value) : Prop := xm_a j = false ∨ (xm_a k = true ∧ (ls.all (fun q => x_okv w.length q.2) = true ∧ rest.all (x_okv w.length) = true))
/-- behind a call -/
theorem x_after {p : Program} {l : Launch} {e : Env} {s : State} {m : MethodId} {args : Array Value} {below : List Frame} {meth : Method} {c : Code} {D : va_G} {cI cZ : ClassId} {A : Nat → Prop} {QQ : State → Prop} {ad0 : Nat → Nat} {n0 : Nat} {ad : Nat → Nat} {H : Heap} {locs : List Loc} {La : Array Slot} {j : Nat} {rest : List Value} {Qj : Option Value → xW → Prop} {stk : List Value} {aa : Array Value}
    (C : x_CX k p s m args meth c D cI cZ A)
    (hR : ∀ (v : Option Value) (w : xW) (ad : Nat → Nat) (H : Heap) (locs : List Loc) (La : Array Slot) (pc : Nat) (ins : Instr), x_ret (xm_r k) v ins → decode (xm_b k) pc = .ok (ins, 1) → Q v w → x_G X k D cI cZ A s ad0 n0 ad w H locs → W p l e (xm_R k) s m args below meth c H locs (xm_R k).cells (xm_R k).slots QQ (F0 m pc La ((v.map (x_tr ad)).toList)))
    (hG : x_G X k D cI cZ A s ad0 n0 ad w H locs) (hl : lv_has La (xm_L k) (ls.map (x_trp ad)))
    (hal : x_al k j w ls rest)
    (hr : va_Run p l e (xm_R k) s m args below meth c H locs n.1 n.2 (xm_R j).cells (xm_R j).slots (F0 m pc La stk) (rest.map (x_tr ad)) (x_QU j D cI cZ ad w H.size Qj aa) (va_A (x_rl cI cZ ad 0 w) H.size))
    (kk : ∀ v w', Qj v w' → V X k Q (n.1 + (xm_R j).cells, n.2 + (xm_R j).slots) (pc + 3) ls (v.toList ++ rest) w') :
    W p l e (xm_R k) s m args below meth c H locs n.1 n.2 QQ (F0 m pc La stk) := by
  intro T hT XX
  obtain ⟨v0, st₀, t, T', L, h0, X1, hL, e1, e2, ⟨⟨v, w', ad', hv, hq, ha, hag, hlen, hP1, hD1⟩, hz, hk⟩, st⟩ := hr T hT XX
  cases hv
  rw [h0] at hz hk
  obtain ⟨g1, g2, g3, g4, g5, g6, g7⟩ := hG
  have hFr : ∀ q, va_A (x_rl cI cZ ad 0 w) H.size q → A q := by
    intro q h
    rcases h with ⟨i, e, h⟩ | h
    · exact g2.2 i (q, e) h
    · exact C.2.2.2.2.2.2.1 q (Nat.le_trans g3.1 h)
  have hS' : va_S A s.heap T'.heap (locs ++ L) := by
    refine ⟨Nat.le_trans g3.1 (by rw [e1]; exact hz), fun q h1 h2 => ?_, fun q hq => ?_⟩
    · rw [e1, hk q (Nat.lt_of_lt_of_le h1 g3.1) (fun z => h2 (hFr q z))]
      exact g3.2.1 q h1 h2
    · rcases List.mem_append.mp hq with h | h
      · exact g3.2.2 q h
      · exact hFr _ (hL q h)
  have hG' : x_G X k D cI cZ A s ad0 n0 ad' w' T'.heap (locs ++ L) := by
    refine ⟨by rw [e1]; exact hP1, hD1.weaken (fun _ q _ h => hFr q.1 h), hS', fun hk0 => ?_, g5.tr hag g6, Nat.le_trans g6 hlen, ?_⟩
    · rcases hal with hj | ⟨hj, -⟩
      · rw [ha hj]; exact g4 hk0
      · rw [hj] at hk0; cases hk0
    · cases X with
      | none => trivial
      | some q =>
        obtain ⟨x1, x2, x3⟩ := g7
        refine ⟨?_, ?_, ?_⟩
        · rw [hag.2]; exact x1
        · rw [hag.2]; exact x2
        · rw [hag.2]; exact x3
  have hl' : lv_has La (xm_L k) (ls.map (x_trp ad')) ∧ rest.map (x_tr ad') = rest.map (x_tr ad) := by
    rcases hal with hj | ⟨-, hj1, hj2⟩
    · rw [ha hj]; exact ⟨hl, rfl⟩
    · exact ⟨by rw [x_trl_ag hag hj1]; exact hl, x_trL_ag hag hj2⟩
  obtain ⟨t2, a1, b1⟩ := kk v w' hq p l e s m args below meth c D cI cZ A QQ ad0 n0 C hR ad' T'.heap (locs ++ L) La hG' hl'.1 T' rfl X1
  refine ⟨t2, st t2 ?_, b1⟩
  have hs : (v.toList ++ rest).map (x_tr ad') = (v.map (x_tr ad')).toList ++ rest.map (x_tr ad) := by
    rw [List.map_append, hl'.2]
    cases v <;> rfl
  rw [hs] at a1
  exact a1
/-- the callee's start -/
theorem x_pre {s : State} {D : va_G} {cI cZ : ClassId} {A : Nat → Prop} {ad0 : Nat → Nat} {n0 : Nat} {ad : Nat → Nat} {H : Heap} {locs : List Loc} {p : Program} {m : MethodId} {args : Array Value} {meth : Method} {c : Code} (C : x_CX k p s m args meth c D cI cZ A) (hG : x_G X k D cI cZ A s ad0 n0 ad w H locs) (hX : X' = none ∨ X' = X) (as : List Value) :
    FrameBlind (va_Pc (as.map (x_tr ad)) (x_PU X' D cI cZ ad w H.size)) ∧ ∀ U : State, U.heap = H → s.WarmedH U.vm → va_Pc (as.map (x_tr ad)) (x_PU X' D cI cZ ad w H.size) (as.map (x_tr ad)).toArray U := by
  obtain ⟨g1, g2, g3, g4, g5, g6, g7⟩ := hG
  refine ⟨fun a U g mk q => ?_, fun U hU hW => ?_⟩
  · obtain ⟨q0, q1, q2, q3, q4, q5, q6⟩ := q
    refine ⟨q0, q1, q2, va_K.moved (u := U) (U := U.calling g mk a) (Vm.Alike.refl U.vm) q3, q4, fun w hw => ?_, ?_⟩
    · have h1 := q5 w hw
      obtain ⟨o, i, y, h, rfl⟩ : ∃ o i y h, w = Cond.methodLinkNest o i y h := x_nest_form w hw
      exact va_Nw.same rfl rfl h1
    · cases X' with
      | none => trivial
      | some q => exact ⟨va_X.moved (u := U) (U := U.calling g mk a) (Vm.Alike.refl U.vm) q6.1, q6.2⟩
  · refine ⟨rfl, by rw [hU], by rw [hU]; exact g1, va_K.moved hW.alike C.2.2.2.2.2.1, g2.weaken (fun _ _ _ _ => trivial), fun w hw => ?_, ?_⟩
    · have h1 := C.2.2.2.2.2.2.2.1 w hw
      obtain ⟨o, i, y, h, rfl⟩ : ∃ o i y h, w = Cond.methodLinkNest o i y h := x_nest_form w hw
      exact va_Nw.warmM hW h1
    · rcases hX with rfl | rfl
      · trivial
      · cases X' with
        | none => trivial
        | some q =>
          obtain ⟨x1, x2, x3⟩ := g7
          refine ⟨?_, Nat.lt_of_lt_of_le x2 g3.1, fun h => x3 ?_⟩
          · rw [hU]
            exact (va_X.moved hW.alike x1).kept (g3.2.1 _ x2 x3)
          · rcases h with ⟨i, e, h⟩ | h
            · exact g2.2 i _ h
            · exact absurd (Nat.lt_of_lt_of_le x2 g3.1) (Nat.not_lt.mpr h)
theorem x_cb_fit {k a b : Nat} (h : x_cb k a b = true) : ((xm_R a).frames + 1 ≤ (xm_R k).frames ∧ 8 + (xm_L a + 11) + (xm_R a).locals ≤ (xm_R k).locals) ∧ (xm_y a).cls = xm_o a ∧ (xm_y a).cls ≠ "java/lang/invoke/MethodHandle" ∧ (xm_y a).cls ≠ "java/lang/invoke/VarHandle" ∧ (parseMethodDescriptor (xm_y a).desc).map (fun d => d.parameters.length) = some b := by
  simp only [x_cb, x_fit, Bool.and_eq_true, decide_eq_true_eq] at h
  exact ⟨⟨Nat.le_of_ble_eq_true h.1.1, Nat.le_of_ble_eq_true h.1.2⟩, h.2⟩
theorem x_catl (ad : Nat → Nat) (l : List Value) : ((l.map (x_tr ad)).map fun v => v.category).sum = (l.map fun v => v.category).sum := by
  rw [List.map_map]
  congr 1
  exact List.map_congr_left fun v _ => x_cat ad v
/-- a call of an instance method -/
theorem V.callV {idx j o : Nat} {as rest : List Value} {fs : List Value} {Qj : Option Value → xW → Prop} (hd : xm_i k pc = some (.invokevirtual idx, nx, j, b)) (ht : Tot X' j (.ref o :: as) w Qj) (hst : as.reverse ++ .ref o :: rest = st) (hw : w[o]? = some (.inr (xm_c j, fs))) (hlen : as.length = b) (hW : (rest.map fun v => v.category).sum ≤ 8) (hX : X' = none ∨ X' = X) (hal : x_al k j w ls rest) (hf : n.1 + (xm_R j).cells ≤ (xm_R k).cells ∧ n.2 + (xm_R j).slots ≤ (xm_R k).slots)
    (kk : ∀ v w', Qj v w' → V X k Q (n.1 + (xm_R j).cells, n.2 + (xm_R j).slots) nx ls (v.toList ++ rest) w') : V X k Q n pc ls st w := by
  intro p l e s m args below meth c D cI cZ A QQ ad0 n0 C hR ad H locs La hG hl
  obtain ⟨hdc, hnx, hex⟩ := C.2.2.2.2.2.2.2.2.2 pc _ hd
  dsimp only at hdc hnx hex
  have hnx : nx = pc + 3 := hnx
  subst hnx
  obtain ⟨hlk, hcb⟩ := hex
  obtain ⟨hfit, hcls, hnm1, hnm2, hpar⟩ := x_cb_fit hcb
  have hml := x_lv_ok _ hlk
  obtain ⟨hini, hcode, hinst, hsel⟩ := x_lv_me _ hlk
  dsimp only at hml hini hcode hinst hsel
  have hts := C.2.2.2.2.1
  have hcl6 : xm_c j < 6 ∧ xcl[xm_c j]? = some (xc_n (xm_c j), xc_T (xm_c j), xc_N (xm_c j)) := by
    have h1 := hG.1 o _ (x_rl_at hw)
    obtain ⟨r, hr, -⟩ := h1
    have h6 := x_cl6 hr
    exact ⟨h6, x_xcl h6⟩
  have hpre := x_pre (X' := X') C hG hX (.ref o :: as)
  subst hst
  refine x_after (aa := (Value.ref (ad o) :: as.map (x_tr ad)).toArray) C hR hG hl hal ?_ kk
  refine va_runV (C := xm_o j) (b := ad o) (As := as.map (x_tr ad)) (nL := xm_L k) (Ts := xG) (own := xm_o k) ⟨C.1, C.2.1, C.2.2.1, C.2.2.2.1, hts⟩ (ht l D cI cZ ad H.size) (cwV b hts (x_good_app hcode (fun w hw => ?_)) rfl rfl rfl ⟨hcls, hnm1, hnm2, hpar⟩ hfit) ⟨hpre.1, va_recv C.2.2.2.2.2.1 hG.1 hcl6.2 (x_rl_at hw), hpre.2⟩ rfl (by rw [List.length_map]; exact hlen) hl.1 (by simp [x_tr]) (lv_room (by rw [x_catl]; exact hW)) hdc hf
  simp only [List.mem_cons, List.not_mem_nil, or_false] at hw
  rcases hw with rfl | rfl | rfl | rfl
  · exact hml
  · exact hinst
  · exact hsel
  · exact hini
/-- a call of a static method -/
theorem V.callS {idx j : Nat} {as rest : List Value} {Qj : Option Value → xW → Prop} (hd : xm_i k pc = some (.invokestatic idx, nx, j, b)) (hj : Nat.ble j 899 = true) (ht : Tot X' j as w Qj) (hst : as.reverse ++ rest = st) (hlen : as.length = b) (hW : (rest.map fun v => v.category).sum ≤ 8) (hX : X' = none ∨ X' = X) (hal : x_al k j w ls rest) (hf : n.1 + (xm_R j).cells ≤ (xm_R k).cells ∧ n.2 + (xm_R j).slots ≤ (xm_R k).slots)
    (kk : ∀ v w', Qj v w' → V X k Q (n.1 + (xm_R j).cells, n.2 + (xm_R j).slots) nx ls (v.toList ++ rest) w') : V X k Q n pc ls st w := by
  intro p l e s m args below meth c D cI cZ A QQ ad0 n0 C hR ad H locs La hG hl
  obtain ⟨hdc, hnx, hex⟩ := C.2.2.2.2.2.2.2.2.2 pc _ hd
  dsimp only at hdc hnx hex
  have hnx : nx = pc + 3 := hnx
  subst hnx
  have hj9 : ¬ 900 ≤ j := by have := Nat.le_of_ble_eq_true hj; omega
  have hts := C.2.2.2.2.1
  have hpre := x_pre (X' := X') C hG hX as
  subst hst
  rcases hex with h9 | ⟨hlk, hcb⟩
  · exact absurd h9 hj9
  obtain ⟨hfit, hcls, hnm1, hnm2, hpar⟩ := x_cb_fit hcb
  refine x_after (aa := (as.map (x_tr ad)).toArray) C hR hG hl hal ?_ kk
  rcases hlk with ⟨hlk, hsame⟩ | hlk
  · have hml := x_ls_ok _ hlk
    obtain ⟨hini, hcode, hstat⟩ := x_ls_me _ hlk
    dsimp only at hml hini hcode hstat
    refine va_runS (As := as.map (x_tr ad)) (nL := xm_L k) (Ts := xG) (own := xm_o k) ⟨C.1, C.2.1, C.2.2.1, C.2.2.2.1, hts⟩ (ht l D cI cZ ad H.size) (cwS b hts (x_good_app hcode (fun w hw => ?_)) rfl rfl rfl ⟨hcls.trans hsame, hnm1, hnm2, hpar⟩ hfit) hpre rfl (by rw [List.length_map]; exact hlen) hl.1 (by simp) (lv_room (by rw [x_catl]; exact hW)) hdc hf
    simp only [List.mem_cons, List.not_mem_nil, or_false] at hw
    rcases hw with rfl | rfl | rfl
    · exact hml
    · exact hstat
    · rw [← hsame]; exact hini
  · have hml := C.2.2.2.2.2.2.2.1 _ (x_ln_ok _ hlk)
    obtain ⟨hini, hcode, hstat⟩ := x_ln_me _ hlk
    dsimp only at hml hini hcode hstat
    exact va_runSN (As := as.map (x_tr ad)) (nL := xm_L k) (Ts := xG) (own := xm_o k) (n := b) ⟨C.1, C.2.1, C.2.2.1, C.2.2.2.1, hts⟩ (ht l D cI cZ ad H.size) ⟨va_cnB b hts (x_good hcode) rfl rfl rfl hml (by rw [hcls]; exact hts _ hini) ⟨hnm1, hnm2, hpar⟩ hfit, hts _ hstat, trivial⟩ hpre rfl (by rw [List.length_map]; exact hlen) hl.1 (by simp) (lv_room (by rw [x_catl]; exact hW)) hdc hf
/-- a call of a constructor -/
theorem V.callI {idx j o : Nat} {as rest : List Value} {Qj : Option Value → xW → Prop} (hd : xm_i k pc = some (.invokespecial idx, nx, j, b)) (hj : Nat.ble j 899 = true) (ht : Tot X' j (.ref o :: as) w Qj) (hst : as.reverse ++ .ref o :: rest = st) (hlen : as.length = b) (hW : (rest.map fun v => v.category).sum ≤ 8) (hX : X' = none ∨ X' = X) (hal : x_al k j w ls rest) (hf : n.1 + (xm_R j).cells ≤ (xm_R k).cells ∧ n.2 + (xm_R j).slots ≤ (xm_R k).slots)
    (kk : ∀ v w', Qj v w' → V X k Q (n.1 + (xm_R j).cells, n.2 + (xm_R j).slots) nx ls (v.toList ++ rest) w') : V X k Q n pc ls st w := by
  intro p l e s m args below meth c D cI cZ A QQ ad0 n0 C hR ad H locs La hG hl
  obtain ⟨hdc, hnx, hex⟩ := C.2.2.2.2.2.2.2.2.2 pc _ hd
  dsimp only at hdc hnx hex
  have hnx : nx = pc + 3 := hnx
  subst hnx
  have hj9 : ¬ 900 ≤ j := by have := Nat.le_of_ble_eq_true hj; omega
  have hts := C.2.2.2.2.1
  have hpre := x_pre (X' := X') C hG hX (.ref o :: as)
  subst hst
  rcases hex with h9 | ⟨hlk, hcb, hnm, hret⟩
  · exact absurd h9 hj9
  obtain ⟨hfit, hcls, hnm1, hnm2, hpar⟩ := x_cb_fit hcb
  refine x_after (aa := (Value.ref (ad o) :: as.map (x_tr ad)).toArray) C hR hG hl hal ?_ kk
  have hml := x_li_ok _ hlk
  obtain ⟨hini, hcode, hinst⟩ := x_li_me _ hlk
  dsimp only at hml hini hcode hinst
  exact va_runI (b := ad o) (As := as.map (x_tr ad)) (nL := xm_L k) (Ts := xG) (own := xm_o k) ⟨C.1, C.2.1, C.2.2.1, C.2.2.2.1, hts⟩ (ht l D cI cZ ad H.size) (cwI b hts (x_good hcode) (by rw [← hret]; rfl) rfl rfl (by rw [hcls]; exact hts _ hini) (hts _ hml) (hts _ hinst) hnm ⟨hnm1, hnm2, hpar⟩ hfit) hpre rfl (by rw [List.length_map]; exact hlen) hl.1 (by simp [x_tr]) (lv_room (by rw [x_catl]; exact hW)) hdc hf
end VC
