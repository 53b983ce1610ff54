/-! the reference's blocks hold K -/
def rpK (B : Nat) (a : Nat → Nat → Int32) (v : Nat → Int32) (K : KS) : Prop := (∀ w, w < 32 * B → a 2 w = K.1 w) ∧ (∀ w, w < 32 * B → a 5 w = K.2.1 w) ∧ (∀ b, b < B → a 0 b = K.2.2.1 b) ∧ (∀ b, b < B → a 1 b = K.2.2.2.1 b) ∧ v 3 = K.2.2.2.2
def frM (a a' : Nat → Nat → Int32) (v v' : Nat → Int32) : Prop := (∀ i, i ≠ 0 → i ≠ 1 → i ≠ 2 → i ≠ 5 → a' i = a i) ∧ ∀ i, i ≠ 3 → v' i = v i
theorem frM.rf (a : Nat → Nat → Int32) (v : Nat → Int32) : frM a a v v := ⟨fun _ _ _ _ _ => rfl, fun _ _ => rfl⟩
theorem frM.tr {a a' a'' : Nat → Nat → Int32} {v v' v'' : Nat → Int32} (h1 : frM a a' v v') (h2 : frM a' a'' v' v'') : frM a a'' v v'' :=
  ⟨fun i p1 p2 p3 p4 => (h2.1 i p1 p2 p3 p4).trans (h1.1 i p1 p2 p3 p4), fun i p => (h2.2 i p).trans (h1.2 i p)⟩
theorem setA_n {a : Nat → Nat → Int32} {i j : Nat} {f : Nat → Int32} (h : j ≠ i) : setA a i f j = a j := by
  have : Nat.beq j i = false := by rw [Bool.eq_false_iff]; exact fun z => h (Nat.eq_of_beq_eq_true z)
  simp [setA, this]
theorem uA_n {a : Nat → Nat → Int32} {i j k : Nat} {x : Int32} (h : j ≠ i) : uA a i k x j = a j := by
  have : Nat.beq j i = false := by rw [Bool.eq_false_iff]; exact fun z => h (Nat.eq_of_beq_eq_true z)
  simp [uA, this]
theorem uV_n {v : Nat → Int32} {i j : Nat} {x : Int32} (h : j ≠ i) : uV v i x j = v j := by
  have : Nat.beq j i = false := by rw [Bool.eq_false_iff]; exact fun z => h (Nat.eq_of_beq_eq_true z)
  simp [uV, this]
/-- which words are marked -/
def mkM (B : Nat) (k : Nat → Int32) (mkd : Nat → Bool) : Prop := ∀ w, w < 32 * B → k w = if mkd w = true then 1 else 0
theorem cn_all {p : Nat → Bool} : ∀ {n : Nat}, cn p n = n ↔ ∀ i, i < n → p i = true
  | 0 => ⟨fun _ i h => absurd h (Nat.not_lt_zero i), fun _ => rfl⟩
  | n + 1 => by
    unfold cn
    have ih := cn_all (p := p) (n := n)
    have hl := cn_le p n
    cases hp : p n with
    | true =>
      rw [cond_true]
      constructor
      · intro h i hi
        by_cases q : i = n
        · rw [q]; exact hp
        · exact ih.mp (by omega) i (by omega)
      · intro h
        rw [ih.mpr (fun i hi => h i (by omega))]
    | false =>
      rw [cond_false]
      constructor
      · intro h; omega
      · intro h; rw [h n (by omega)] at hp; cases hp
theorem ecB_cn {nm : Nat → Int32} {b c : Nat} : ecB nm b c = none ↔ cn (fun i => !decide (nm (b * 32 + i * cwd c) = -1)) (cpb c) = cpb c := by
  unfold ecB
  rw [Option.map_eq_none_iff, ff_none, cn_all]
  constructor
  · intro h i hi
    have := h i (Nat.zero_le _) (by omega)
    simp at this ⊢
    exact this
  · intro h i _ hi
    have := h i (by omega)
    simp at this ⊢
    exact this
section MB
variable {cc : Nat → xC} {B : Nat} {a : Nat → Nat → Int32} {v : Nat → Int32}
theorem m_objectsIn (hB : B ≤ 16) {nm : Nat → Int32} (hn : ∀ w, w < 32 * B → a 2 w = nm w) {b : Nat} (hb : b < B) : Tot none kX5_objectsIn [.ref 19, .int (nI b)] (wM cc B a v) (rI (nI (oB nm b)) (wM cc B a v)) := by
  have loop : ∀ (m i : Nat), i + m = 32 → V none 95 (rI (nI (oB nm b)) (wM cc B a v)) (0, 0) 15 [(0, .ref 19), (1, .int (nI b)), (2, .int (nI (cn (fun i => !decide (nm (b * 32 + i) = -1)) i))), (3, .int (nI (b * 32 + i)))] [.int (nI (b * 32 + 32)), .int (nI (b * 32 + i))] (wM cc B a v) := by
    intro m
    induction m with
    | zero =>
      intro i hi
      have e : i = 32 := by omega
      subst e
      refine V.brT rfl rfl (nI_le (Nat.le_refl _) (by omega)) ?_
      refine V.run 20 rfl ?_
      exact V.ri rfl ⟨rfl, rfl⟩
    | succ m ih =>
      intro i hi
      have hxB : b * 32 + i < 32 * B := by omega
      have ih := ih (i + 1) (by omega)
      rw [cn] at ih
      refine V.brF rfl rfl (nI_ge (by omega) (by omega)) ?_
      refine V.run 20 rfl ?_
      refine V.ialE rfl rfl rfl (show b * 32 + i < 512 by omega) (by omega) (hn _ hxB) ?_
      refine V.run 20 rfl ?_
      by_cases hm : nm (b * 32 + i) = -1
      · rw [show (!decide (nm (b * 32 + i) = -1)) = false by simp [hm]] at ih
        refine V.brF rfl rfl (fun h => h hm) ?_
        refine V.run 20 rfl ?_
        rw [pk_mul, nI_add, nI_add, nI_add, Nat.mul_comm 32 b]
        exact ih
      · rw [show (!decide (nm (b * 32 + i) = -1)) = true by simp [hm]] at ih
        refine V.brT rfl rfl hm ?_
        refine V.run 20 rfl ?_
        rw [pk_mul, nI_add, nI_add, nI_add, Nat.mul_comm 32 b]
        exact ih
  refine eX5_objectsIn ?_
  refine V.run 20 rfl ?_
  rw [pk_mul, nI_add, Nat.mul_comm 32 b]
  exact loop 32 0 (by omega)
theorem m_emptyIn0 (hB : B ≤ 16) {b : Nat} (hb : b < B) (hf : a 0 b = -1) : Tot none kX5_emptyIn [.ref 19, .int (nI b)] (wM cc B a v) (rI (nI 0) (wM cc B a v)) := by
  refine eX5_emptyIn ?_
  refine V.run 20 rfl ?_
  refine V.ialE rfl rfl rfl (show b < 16 by omega) (by omega) hf ?_
  refine V.run 20 rfl ?_
  refine V.brF rfl rfl (fun h => h rfl) ?_
  refine V.run 20 rfl ?_
  exact V.ri rfl ⟨rfl, rfl⟩
theorem m_emptyIn (hB : B ≤ 16) {nm : Nat → Int32} (hn : ∀ w, w < 32 * B → a 2 w = nm w) {b c : Nat} (hb : b < B) (hc : c < 4) (hcl : a 0 b = nI c) : Tot none kX5_emptyIn [.ref 19, .int (nI b)] (wM cc B a v) (rI (nI (32 / cwd c) - nI (oB nm b)) (wM cc B a v)) := by
  refine eX5_emptyIn ?_
  refine V.run 20 rfl ?_
  refine V.ialE rfl rfl rfl (show b < 16 by omega) (by omega) hcl ?_
  refine V.run 20 rfl ?_
  refine V.brT rfl rfl (nI_m1 (by omega)) ?_
  refine V.run 20 rfl ?_
  refine V.ialE rfl rfl rfl (show b < 16 by omega) (by omega) hcl ?_
  refine V.cs rfl (m_cellOf hc) rfl ?_
  rintro _ _ ⟨rfl, rfl⟩
  have h1 := cwd_pos c
  have h2 := cwd_le c hc
  refine V.idiv rfl (nI_ne0 (by omega) (by omega)) ?_
  rw [pk_div (by omega) (by omega) (by omega)]
  refine V.run 20 rfl ?_
  refine V.cv rfl (m_objectsIn hB hn hb) rfl rfl ?_
  rintro _ _ ⟨rfl, rfl⟩
  refine V.run 20 rfl ?_
  exact V.ri rfl ⟨rfl, rfl⟩
theorem m_sweepBlock (hB : B ≤ 16) {K : KS} {mkd : Nat → Bool} (hm : mkM B (a 4) mkd) (hK : bkOK B mkd K) (hr : rpK B a v K) {b : Nat} (hb : b < B) :
    Tot none kX5_sweepBlock [.ref 19, .int (nI b)] (wM cc B a v) (fun o w' => o = none ∧ ∃ a' v', w' = wM cc B a' v' ∧ frM a a' v v' ∧ rpK B a' v' (sw1 mkd K b)) := by
  obtain ⟨r1, r2, r3, r4, r5⟩ := hr
  have fin : ∀ (nm wt : Nat → Int32), (∀ w, w < 32 * B → nm w = swN mkd K.1 b w) → (∀ w, w < 32 * B → wt w = swW mkd K.2.1 b w) →
      V none 97 (fun o w' => o = none ∧ ∃ a' v', w' = wM cc B a' v' ∧ frM a a' v v' ∧ rpK B a' v' (sw1 mkd K b)) (0, 0) 72 [(0, .ref 19), (1, .int (nI b))] [] (wM cc B (setA (setA (uA a 1 b (nI 0)) 2 nm) 5 wt) (uV v 3 (v 3 + nI 1))) := by
    intro nm wt h1 h2
    have hfr : ∀ z, frM a (uA (setA (setA (uA a 1 b (nI 0)) 2 nm) 5 wt) 0 b z) v (uV v 3 (v 3 + nI 1)) := fun z => ⟨fun i p1 p2 p3 p4 => by rw [uA_n p1, setA_n p4, setA_n p3, uA_n p2], fun i p => uV_n p⟩
    have hun : ∀ b', b' < B → upd (a 1) b (nI 0) b' = upd K.2.2.2.1 b 0 b' := by
      intro b' hb'
      by_cases q : b' = b
      · subst q; rw [upd_s, upd_s]; rfl
      · rw [upd_n q, upd_n q]; exact r4 b' hb'
    refine V.run 20 rfl ?_
    refine V.cv rfl (m_objectsIn hB (nm := swN mkd K.1 b) (by exact h1) hb) rfl rfl ?_
    rintro _ _ ⟨rfl, rfl⟩
    by_cases hz : oB (swN mkd K.1 b) b = 0
    · have he : blkE (swN mkd K.1 b) b = true := by
        rw [blkE_iff]
        intro w hw
        unfold oB at hz
        rw [cn_zero] at hz
        have := hz (w % 32) (by omega)
        rw [show b * 32 + w % 32 = w by omega] at this
        simpa using this
      rw [hz]
      refine V.brF rfl rfl (fun h => h i0_eq0) ?_
      refine V.run 20 rfl ?_
      refine V.iast (w' := wM cc B (uA (setA (setA (uA a 1 b (nI 0)) 2 nm) 5 wt) 0 b (-1)) (uV v 3 (v 3 + nI 1))) rfl rfl rfl (show b < 16 by omega) (by omega) rfl ?_
      refine V.rv rfl ⟨rfl, _, _, rfl, hfr _, h1, h2, fun b' hb' => ?_, hun, by show v 3 + nI 1 = _; rw [r5]; rfl⟩
      show upd (a 0) b (-1) b' = (if blkE (swN mkd K.1 b) b = true then upd K.2.2.1 b (-1) else K.2.2.1) b'
      rw [if_pos he]
      by_cases q : b' = b
      · subst q; rw [upd_s, upd_s]
      · rw [upd_n q, upd_n q]; exact r3 b' hb'
    · have he : ¬ blkE (swN mkd K.1 b) b = true := by
        intro h
        apply hz
        rw [blkE_iff] at h
        unfold oB
        rw [cn_zero]
        intro i hi
        rw [h (b * 32 + i) (by omega)]
        rfl
      have hle := oB_le (swN mkd K.1 b) b
      refine V.brT rfl rfl (nI_ne0 (by omega) (by omega)) ?_
      refine V.run 20 rfl ?_
      refine V.iald rfl rfl rfl (show b < 16 by omega) (by omega) ?_
      refine V.iast (w' := wM cc B (uA (setA (setA (uA a 1 b (nI 0)) 2 nm) 5 wt) 0 b (a 0 b)) (uV v 3 (v 3 + nI 1))) rfl rfl rfl (show b < 16 by omega) (by omega) rfl ?_
      refine V.rv rfl ⟨rfl, _, _, rfl, hfr _, h1, h2, fun b' hb' => ?_, hun, by show v 3 + nI 1 = _; rw [r5]; rfl⟩
      show upd (a 0) b (a 0 b) b' = (if blkE (swN mkd K.1 b) b = true then upd K.2.2.1 b (-1) else K.2.2.1) b'
      rw [if_neg he]
      by_cases q : b' = b
      · subst q; rw [upd_s]; exact r3 b' hb'
      · rw [upd_n q]; exact r3 b' hb'
  have loop : ∀ (m i : Nat) (nm wt : Nat → Int32), i + m = 32 → (∀ w, w < 32 * B → nm w = if w < b * 32 + i then swN mkd K.1 b w else K.1 w) → (∀ w, w < 32 * B → wt w = if w < b * 32 + i then swW mkd K.2.1 b w else K.2.1 w) →
      V none 97 (fun o w' => o = none ∧ ∃ a' v', w' = wM cc B a' v' ∧ frM a a' v v' ∧ rpK B a' v' (sw1 mkd K b)) (0, 0) 30 [(0, .ref 19), (1, .int (nI b)), (2, .int (nI (b * 32 + i)))] [.int (nI (b * 32 + 32)), .int (nI (b * 32 + i))] (wM cc B (setA (setA (uA a 1 b (nI 0)) 2 nm) 5 wt) (uV v 3 (v 3 + nI 1))) := by
    intro m
    induction m with
    | zero =>
      intro i nm wt hi h1 h2
      refine V.brT rfl rfl (nI_le (by omega) (by omega)) ?_
      refine V.lt 2 rfl (fin nm wt (fun w hw => ?_) (fun w hw => ?_))
      · rw [h1 w hw]
        by_cases q : w < b * 32 + i
        · rw [if_pos q]
        · rw [if_neg q, swN_out (Or.inl (by omega))]
      · rw [h2 w hw]
        by_cases q : w < b * 32 + i
        · rw [if_pos q]
        · rw [if_neg q, swW_out (Or.inl (by omega))]
    | succ m ih =>
      intro i nm wt hi h1 h2
      have hxB : b * 32 + i < 32 * B := by omega
      have hn : nm (b * 32 + i) = K.1 (b * 32 + i) := by rw [h1 _ hxB, if_neg (by omega)]
      have ht : wt (b * 32 + i) = K.2.1 (b * 32 + i) := by rw [h2 _ hxB, if_neg (by omega)]
      have hm' : a 4 (b * 32 + i) = _ := hm (b * 32 + i) hxB
      have keep : swN mkd K.1 b (b * 32 + i) = K.1 (b * 32 + i) → swW mkd K.2.1 b (b * 32 + i) = K.2.1 (b * 32 + i) → V none 97 (fun o w' => o = none ∧ ∃ a' v', w' = wM cc B a' v' ∧ frM a a' v v' ∧ rpK B a' v' (sw1 mkd K b)) (0, 0) 66 [(0, .ref 19), (1, .int (nI b)), (2, .int (nI (b * 32 + i)))] [] (wM cc B (setA (setA (uA a 1 b (nI 0)) 2 nm) 5 wt) (uV v 3 (v 3 + nI 1))) := by
        intro e1 e2
        refine V.run 20 rfl ?_
        rw [pk_mul, nI_add, nI_add, Nat.mul_comm 32 b]
        refine ih (i + 1) nm wt (by omega) (fun w hw => ?_) (fun w hw => ?_)
        · rw [h1 w hw]
          by_cases q : w = b * 32 + i
          · subst q; rw [if_neg (by omega), if_pos (by omega), e1]
          · simp only [show w < b * 32 + i ↔ w < b * 32 + (i + 1) by omega]
        · rw [h2 w hw]
          by_cases q : w = b * 32 + i
          · subst q; rw [if_neg (by omega), if_pos (by omega), e2]
          · simp only [show w < b * 32 + i ↔ w < b * 32 + (i + 1) by omega]
      refine V.brF rfl rfl (nI_ge (by omega) (by omega)) ?_
      refine V.run 20 rfl ?_
      refine V.ialE rfl rfl rfl (show b * 32 + i < 512 by omega) (by omega) hn ?_
      refine V.run 20 rfl ?_
      by_cases hm1 : mkd (b * 32 + i) = true
      · by_cases h0 : K.1 (b * 32 + i) = -1
        · exact absurd h0 (hK.2.2.2.2 _ hxB hm1)
        · refine V.brF rfl rfl h0 ?_
          refine V.run 20 rfl ?_
          refine V.zalE rfl rfl rfl (show b * 32 + i < 512 by omega) (by omega) (hm'.trans (if_pos hm1)) ?_
          refine V.brT rfl rfl (by decide) ?_
          exact keep (swN_out (Or.inr hm1)) (swW_out (Or.inr hm1))
      · have hm0 : mkd (b * 32 + i) = false := by simpa using hm1
        by_cases h0 : K.1 (b * 32 + i) = -1
        · refine V.brT rfl rfl h0 ?_
          refine keep ?_ ?_
          · rw [swN_in (by omega) hm0, h0]
          · rw [swW_in (by omega) hm0]
            rcases hK.2.2.2.1 _ hxB with h | h
            · exact h.symm
            · exact absurd h0 h.2
        · refine V.brF rfl rfl h0 ?_
          refine V.run 20 rfl ?_
          refine V.zalE rfl rfl rfl (show b * 32 + i < 512 by omega) (by omega) (hm'.trans (if_neg hm1)) ?_
          refine V.brF rfl rfl (fun h => h rfl) ?_
          refine V.run 20 rfl ?_
          refine V.iast (w' := wM cc B (setA (setA (uA a 1 b (nI 0)) 2 (upd nm (b * 32 + i) (-1))) 5 wt) (uV v 3 (v 3 + nI 1))) rfl rfl rfl (show b * 32 + i < 512 by omega) (by omega) rfl ?_
          refine V.run 20 rfl ?_
          refine V.zast (w' := wM cc B (setA (setA (uA a 1 b (nI 0)) 2 (upd nm (b * 32 + i) (-1))) 5 (upd wt (b * 32 + i) (nI 0))) (uV v 3 (v 3 + nI 1))) rfl rfl rfl (show b * 32 + i < 512 by omega) (by omega) (Or.inl rfl) rfl ?_
          refine V.run 20 rfl ?_
          rw [pk_mul, nI_add, nI_add, Nat.mul_comm 32 b]
          refine ih (i + 1) _ _ (by omega) (fun w hw => ?_) (fun w hw => ?_)
          · by_cases q : w = b * 32 + i
            · subst q; rw [upd_s, if_pos (by omega), swN_in (by omega) hm0]
            · rw [upd_n q, h1 w hw]
              simp only [show w < b * 32 + i ↔ w < b * 32 + (i + 1) by omega]
          · by_cases q : w = b * 32 + i
            · subst q; rw [upd_s, if_pos (by omega), swW_in (by omega) hm0]; rfl
            · rw [upd_n q, h2 w hw]
              simp only [show w < b * 32 + i ↔ w < b * 32 + (i + 1) by omega]
  refine eX5_sweepBlock ?_
  refine V.run 20 rfl ?_
  refine V.puti (w' := wM cc B a (uV v 3 (v 3 + nI 1))) rfl rfl rfl ?_
  refine V.run 20 rfl ?_
  refine V.zast (w' := wM cc B (uA a 1 b (nI 0)) (uV v 3 (v 3 + nI 1))) rfl rfl rfl (show b < 16 by omega) (by omega) (Or.inl rfl) rfl ?_
  refine V.run 20 rfl ?_
  rw [pk_mul, nI_add, Nat.mul_comm 32 b]
  refine loop 32 0 (a 2) (a 5) (by omega) (fun w hw => ?_) (fun w hw => ?_)
  · rw [r1 w hw]
    by_cases q : w < b * 32 + 0
    · rw [if_pos q, swN_out (Or.inl (by omega))]
    · rw [if_neg q]
  · rw [r2 w hw]
    by_cases q : w < b * 32 + 0
    · rw [if_pos q, swW_out (Or.inl (by omega))]
    · rw [if_neg q]
theorem m_emptyCell (hB : B ≤ 16) {K : KS} {mkd : Nat → Bool} (hK : bkOK B mkd K) (hr : rpK B a v K) {c : Nat} (hc : c < 4) : Tot none kX5_emptyCell [.ref 19, .int (nI c)] (wM cc B a v) (rI (oA (ecA K c B 0)) (wM cc B a v)) := by
  have hcp := cpb_le c hc
  have hcw := cpw c hc
  have inner : ∀ {Q : Option Value → xW → Prop} {b : Nat}, b < B → (kk : ∀ x, ecB K.1 b c = some x → Q (some (.int (nI x))) (wM cc B a v)) → (kn : ecB K.1 b c = none → V none 98 Q (0, 0) 67 [(0, .ref 19), (1, .int (nI c)), (2, .int (nI b))] [] (wM cc B a v)) → ∀ (m i : Nat), i + m = cpb c → ecB K.1 b c = (ff (fun i => decide (K.1 (b * 32 + i * cwd c) = -1)) m i).map (fun i => b * 32 + i * cwd c) →
      V none 98 Q (0, 0) 42 [(0, .ref 19), (1, .int (nI c)), (2, .int (nI b)), (3, .int (nI (b * 32 + i * cwd c)))] [.int (nI (b * 32 + 32)), .int (nI (b * 32 + i * cwd c))] (wM cc B a v) := by
    intro Q b hb kk kn m
    induction m with
    | zero =>
      intro i hi he
      have e : i = cpb c := by omega
      subst e
      rw [hcw]
      refine V.brT rfl rfl (nI_le (Nat.le_refl _) (by omega)) ?_
      exact V.lt 3 rfl (kn he)
    | succ m ih =>
      intro i hi he
      have hci := cw_in hc (show i < cpb c by omega)
      have hcp2 := cwd_pos c
      have hxB : b * 32 + i * cwd c < 32 * B := by omega
      refine V.brF rfl rfl (nI_ge (by omega) (by omega)) ?_
      refine V.run 20 rfl ?_
      refine V.ialE rfl rfl rfl (show b * 32 + i * cwd c < 512 by omega) (by omega) (hr.1 _ hxB) ?_
      refine V.run 20 rfl ?_
      unfold ff at he
      by_cases hn : K.1 (b * 32 + i * cwd c) = -1
      · rw [show decide (K.1 (b * 32 + i * cwd c) = -1) = true from decide_eq_true hn] at he
        refine V.brF rfl rfl (fun h => h hn) ?_
        refine V.run 20 rfl ?_
        exact V.ri rfl (kk _ he)
      · rw [show decide (K.1 (b * 32 + i * cwd c) = -1) = false from decide_eq_false hn] at he
        refine V.brT rfl rfl hn ?_
        refine V.run 20 rfl ?_
        refine V.cs rfl (m_cellOf hc) rfl ?_
        rintro _ _ ⟨rfl, rfl⟩
        refine V.run 20 rfl ?_
        rw [pk_mul, nI_add, nI_add, Nat.mul_comm 32 b, show b * 32 + i * cwd c + cwd c = b * 32 + (i + 1) * cwd c by rw [Nat.add_mul, Nat.one_mul, Nat.add_assoc]]
        exact ih (i + 1) (by omega) he
  have loop : ∀ (m b : Nat), b + m = B → V none 98 (rI (oA (ecA K c m b)) (wM cc B a v)) (0, 0) 7 [(0, .ref 19), (1, .int (nI c)), (2, .int (nI b))] [.int (nI B), .int (nI b)] (wM cc B a v) := by
    intro m
    induction m with
    | zero =>
      intro b hb
      refine V.brT rfl rfl (nI_le (by omega) (by omega)) ?_
      refine V.run 20 rfl ?_
      exact V.ri rfl ⟨rfl, rfl⟩
    | succ m ih =>
      intro b hbm
      have hb : b < B := by omega
      have ih := ih (b + 1) (by omega)
      refine V.brF rfl rfl (nI_ge hb (by omega)) ?_
      refine V.run 20 rfl ?_
      refine V.ialE rfl rfl rfl (show b < 16 by omega) (by omega) (hr.2.2.1 b hb) ?_
      refine V.run 20 rfl ?_
      unfold ecA
      by_cases h1 : K.2.2.1 b = nI c
      · refine V.brF rfl rfl (fun h => h h1) ?_
        refine V.run 20 rfl ?_
        by_cases h2 : K.2.2.2.1 b = 0
        · refine V.zalE rfl rfl rfl (show b < 16 by omega) (by omega) ((hr.2.2.2.1 b hb).trans h2) ?_
          refine V.brF rfl rfl (fun h => h rfl) ?_
          refine V.run 20 rfl ?_
          rw [if_pos ⟨h1, h2⟩, pk_mul, nI_add, Nat.mul_comm 32 b]
          have h := inner (b := b) hb (Q := rI (oA (match ecB K.1 b c with
            | some x => some x
            | none => ecA K c m (b + 1))) (wM cc B a v)) (fun x hx => ⟨by rw [hx]; rfl, rfl⟩) (fun hx => by
              rw [hx]
              refine V.run 20 rfl ?_
              rw [nI_add]
              exact ih) (cpb c) 0 (by omega) rfl
          rw [Nat.zero_mul, Nat.add_zero] at h
          exact h
        · have h2' : K.2.2.2.1 b = 1 := by
            rcases hK.2.1 b hb with h | h
            · exact absurd h h2
            · exact h.1
          refine V.zalE rfl rfl rfl (show b < 16 by omega) (by omega) ((hr.2.2.2.1 b hb).trans h2') ?_
          refine V.brT rfl rfl (by decide) ?_
          rw [if_neg (fun h => h2 h.2)]
          refine V.run 20 rfl ?_
          rw [nI_add]
          exact ih
      · refine V.brT rfl rfl h1 ?_
        rw [if_neg (fun h => h1 h.1)]
        refine V.run 20 rfl ?_
        rw [nI_add]
        exact ih
  refine eX5_emptyCell ?_
  refine V.run 20 rfl ?_
  exact loop B 0 (by omega)
/-- a free block is taken, if there is one -/
def tkF (K : KS) (B c : Nat) : KS := match fFree K B with
  | none => K
  | some b => opn K b c
theorem m_takeFree (hB : B ≤ 16) {K : KS} (hr : rpK B a v K) {c : Nat} (hc : c < 4) :
    Tot none kX5_takeFree [.ref 19, .int (nI c)] (wM cc B a v) (fun o w' => o = some (.int (oA ((fFree K B).map (fun b => b * 32)))) ∧ ∃ a' v', w' = wM cc B a' v' ∧ frM a a' v v' ∧ rpK B a' v' (tkF K B c)) := by
  have loop : ∀ (m b : Nat), b + m = B → fFree K B = ff (fun b => decide (K.2.2.1 b = -1)) m b → V none 99 (fun o w' => o = some (.int (oA ((fFree K B).map (fun b => b * 32)))) ∧ ∃ a' v', w' = wM cc B a' v' ∧ frM a a' v v' ∧ rpK B a' v' (tkF K B c)) (0, 0) 7 [(0, .ref 19), (1, .int (nI c)), (2, .int (nI b))] [.int (nI B), .int (nI b)] (wM cc B a v) := by
    intro m
    induction m with
    | zero =>
      intro b hb he
      refine V.brT rfl rfl (nI_le (by omega) (by omega)) ?_
      refine V.run 20 rfl ?_
      exact V.ri rfl ⟨by rw [he]; rfl, a, v, rfl, frM.rf a v, by unfold tkF; rw [he]; exact hr⟩
    | succ m ih =>
      intro b hbm he
      have hb : b < B := by omega
      refine V.brF rfl rfl (nI_ge hb (by omega)) ?_
      refine V.run 20 rfl ?_
      refine V.ialE rfl rfl rfl (show b < 16 by omega) (by omega) (hr.2.2.1 b hb) ?_
      refine V.run 20 rfl ?_
      unfold ff at he
      by_cases h1 : K.2.2.1 b = -1
      · rw [show decide (K.2.2.1 b = -1) = true from decide_eq_true h1, cond_true] at he
        refine V.brF rfl rfl (fun h => h h1) ?_
        refine V.run 20 rfl ?_
        refine V.iast (w' := wM cc B (uA a 0 b (nI c)) v) rfl rfl rfl (show b < 16 by omega) (by omega) rfl ?_
        refine V.run 20 rfl ?_
        rw [pk_mul, Nat.mul_comm 32 b]
        refine V.ri rfl ⟨by rw [he]; rfl, uA a 0 b (nI c), v, rfl, ⟨fun i p1 p2 p3 p4 => uA_n p1, fun _ _ => rfl⟩, ?_⟩
        unfold tkF
        rw [he]
        refine ⟨hr.1, hr.2.1, fun b' hb' => ?_, hr.2.2.2.1, hr.2.2.2.2⟩
        show upd (a 0) b (nI c) b' = upd K.2.2.1 b (nI c) b'
        by_cases q : b' = b
        · subst q; rw [upd_s, upd_s]
        · rw [upd_n q, upd_n q]; exact hr.2.2.1 b' hb'
      · rw [show decide (K.2.2.1 b = -1) = false from decide_eq_false h1, cond_false] at he
        refine V.brT rfl rfl h1 ?_
        refine V.run 20 rfl ?_
        rw [nI_add]
        exact ih (b + 1) (by omega) he
  refine eX5_takeFree ?_
  refine V.run 20 rfl ?_
  exact loop B 0 (by omega) rfl
end MB
