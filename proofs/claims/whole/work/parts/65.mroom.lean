section MR
variable {cc : Nat → xC} {B : Nat} {a : Nat → Nat → Int32} {v : Nat → Int32}
theorem mkM_fr {a' : Nat → Nat → Int32} {v' : Nat → Int32} {mkd : Nat → Bool} (hm : mkM B (a 4) mkd) (h : frM a a' v v') : mkM B (a' 4) mkd := by rw [h.1 4 (by omega) (by omega) (by omega) (by omega)]; exact hm
theorem ee_le {mkd : Nat → Bool} {K : KS} (hK : bkOK B mkd K) {b c : Nat} (hb : b < B) (hc : c < 4) (hcl : K.2.2.1 b = nI c) : nI (32 / cwd c) - nI (oB K.1 b) ≤ 0 ↔ ecB K.1 b c = none := by
  have h1 := cn_le (fun i => !decide (K.1 (b * 32 + i * cwd c) = -1)) (cpb c)
  have h2 := cpb_le c hc
  rw [ecB_cn, cw_32 c hc, oB_cells hK hb hc hcl, pk_sub h1]
  constructor
  · intro h
    rcases Nat.lt_or_ge (cn (fun i => !decide (K.1 (b * 32 + i * cwd c) = -1)) (cpb c)) (cpb c) with q | q
    · exact absurd h (nI_nle (by omega) (by omega))
    · omega
  · intro h
    rw [h, Nat.sub_self]
    exact Int32.le_refl _
theorem m_own (hB : B ≤ 16) {R : KS} {mkd : Nat → Bool} (hm : mkM B (a 4) mkd) {c : Nat} (hc : c < 4) {Q : Option Value → xW → Prop}
    (kk : ∀ aa vv, frM a aa v vv → rpK B aa vv R → V none 100 Q (0, 0) 90 [(0, .ref 19), (1, .int (nI c))] [] (wM cc B aa vv)) :
    ∀ (m b : Nat) (aa : Nat → Nat → Int32) (vv : Nat → Int32) (K' : KS), b + m = B → frM a aa v vv → bkOK B mkd K' → rpK B aa vv K' → R = cOwn mkd c m b K' →
    V none 100 Q (0, 0) 24 [(0, .ref 19), (1, .int (nI c)), (2, .int (-1)), (3, .int (nI 0)), (4, .int (nI b))] [.int (nI B), .int (nI b)] (wM cc B aa vv) := by
  intro m
  induction m with
  | zero =>
    intro b aa vv K' hb hf hK' hr' hR
    refine V.brT rfl rfl (nI_le (by omega) (by omega)) ?_
    exact V.lt 2 rfl (kk aa vv hf (by rw [hR]; exact hr'))
  | succ m ih =>
    intro b aa vv K' hbm hf hK' hr' hR
    have hb : b < B := by omega
    unfold cOwn at hR
    refine V.brF rfl rfl (nI_ge hb (by omega)) ?_
    refine V.run 20 rfl ?_
    refine V.brF rfl rfl (fun h => h i0_eq0) ?_
    refine V.run 20 rfl ?_
    refine V.ialE rfl rfl rfl (show b < 16 by omega) (by omega) (hr'.2.2.1 b hb) ?_
    refine V.run 20 rfl ?_
    by_cases h1 : K'.2.2.1 b = nI c
    · refine V.brF rfl rfl (fun h => h h1) ?_
      refine V.run 20 rfl ?_
      by_cases h2 : K'.2.2.2.1 b = 1
      · rw [if_pos ⟨h1, h2⟩] at hR
        refine V.zalE rfl rfl rfl (show b < 16 by omega) (by omega) ((hr'.2.2.2.1 b hb).trans h2) ?_
        refine V.brF rfl rfl (by decide) ?_
        refine V.run 20 rfl ?_
        refine V.cv rfl (m_sweepBlock hB (mkM_fr hm hf) hK' hr' hb) rfl rfl ?_
        rintro _ _ ⟨rfl, a1, v1, rfl, hf1, hr1⟩
        have hf2 := hf.tr hf1
        have hK1 := sw1_ok hK' hb
        refine V.run 20 rfl ?_
        refine V.ialE rfl rfl rfl (show b < 16 by omega) (by omega) (hr1.2.2.1 b hb) ?_
        refine V.run 20 rfl ?_
        have stop : R = sw1 mkd K' b → V none 100 Q (0, 0) 78 [(0, .ref 19), (1, .int (nI c)), (2, .int (-1)), (3, .int (nI 0)), (4, .int (nI b))] [] (wM cc B a1 v1) := by
          intro hR
          refine V.run 20 rfl ?_
          refine V.br rfl rfl (fun _ => ?_) (fun _ => ?_)
          · exact V.lt 2 rfl (kk a1 v1 hf2 (by rw [hR]; exact hr1))
          · refine V.run 20 rfl ?_
            refine V.brT rfl rfl i1_ne0 ?_
            exact V.lt 2 rfl (kk a1 v1 hf2 (by rw [hR]; exact hr1))
        by_cases h3 : (sw1 mkd K' b).2.2.1 b = -1
        · rw [if_pos (Or.inl h3)] at hR
          refine V.brT rfl rfl h3 ?_
          exact stop hR
        · refine V.brF rfl rfl h3 ?_
          refine V.run 20 rfl ?_
          have h4 : (sw1 mkd K' b).2.2.1 b = nI c := by
            have e : (sw1 mkd K' b).2.2.1 b = (if blkE (swN mkd K'.1 b) b = true then upd K'.2.2.1 b (-1) else K'.2.2.1) b := rfl
            rw [e] at h3 ⊢
            by_cases q : blkE (swN mkd K'.1 b) b = true
            · rw [if_pos q, upd_s] at h3; exact absurd rfl h3
            · rw [if_neg q]; exact h1
          refine V.cv rfl (m_emptyIn hB hr1.1 hb hc ((hr1.2.2.1 b hb).trans h4)) rfl rfl ?_
          rintro _ _ ⟨rfl, rfl⟩
          have he := ee_le hK1 hb hc h4
          by_cases h5 : ecB (sw1 mkd K' b).1 b c = none
          · rw [if_neg (by rintro (h | h); exact h3 h; exact h h5)] at hR
            refine V.brT rfl rfl (he.mpr h5) ?_
            refine V.run 20 rfl ?_
            rw [nI_add]
            exact ih (b + 1) a1 v1 _ (by omega) hf2 hK1 hr1 hR
          · rw [if_pos (Or.inr h5)] at hR
            refine V.brF rfl rfl (fun h => h5 (he.mp h)) ?_
            exact stop hR
      · have h2' : K'.2.2.2.1 b = 0 := by
          rcases hK'.2.1 b hb with h | h
          · exact h
          · exact absurd h.1 h2
        rw [if_neg (fun h => h2 h.2)] at hR
        refine V.zalE rfl rfl rfl (show b < 16 by omega) (by omega) ((hr'.2.2.2.1 b hb).trans h2') ?_
        refine V.brT rfl rfl rfl ?_
        refine V.run 20 rfl ?_
        rw [nI_add]
        exact ih (b + 1) aa vv K' (by omega) hf hK' hr' hR
    · rw [if_neg (fun h => h1 h.1)] at hR
      refine V.brT rfl rfl h1 ?_
      refine V.run 20 rfl ?_
      rw [nI_add]
      exact ih (b + 1) aa vv K' (by omega) hf hK' hr' hR
/-- there is a place: the last loop is left at once -/
theorem m_rfin {c x b : Nat} (hx : x < 2 ^ 31) {Q : Option Value → xW → Prop} {y : Int32} (hq : Q (some (.int (nI x))) (wM cc B a v)) :
    V none 100 Q (0, 0) 120 [(0, .ref 19), (1, .int (nI c)), (2, .int (nI x)), (4, .int y)] [.int (nI B), .int y] (wM cc B a v) := by
  refine V.br rfl rfl (fun _ => ?_) (fun _ => ?_)
  · refine V.run 20 rfl ?_
    exact V.ri rfl hq
  · refine V.run 20 rfl ?_
    refine V.brT rfl rfl (nI_m1 hx) ?_
    refine V.run 20 rfl ?_
    exact V.ri rfl hq
theorem sw1_free {mkd : Nat → Bool} {K : KS} {b : Nat} (hb : b < B) (h : fFree K B = none) : fFree (sw1 mkd K b) B = if (sw1 mkd K b).2.2.1 b = -1 then some b else none := by
  have h0 : ∀ b', b' < B → K.2.2.1 b' ≠ -1 := fun b' hb' e => by
    have := (ff_none.mp h) b' (Nat.zero_le _) (by omega)
    rw [decide_eq_true e] at this
    cases this
  have hne : ∀ b', b' ≠ b → (sw1 mkd K b).2.2.1 b' = K.2.2.1 b' := by
    intro b' hq
    show (if blkE (swN mkd K.1 b) b = true then upd K.2.2.1 b (-1) else K.2.2.1) b' = _
    split
    · exact upd_n hq
    · rfl
  cases he : fFree (sw1 mkd K b) B with
  | none =>
    have := (ff_none.mp he) b (Nat.zero_le _) (by omega)
    rw [if_neg (of_decide_eq_false this)]
  | some y =>
    obtain ⟨-, h2, h3, -⟩ := ff_some he
    have h3 := of_decide_eq_true h3
    have e : y = b := by
      by_cases q : y = b
      · exact q
      · exact absurd ((hne y q).symm.trans h3) (h0 y (by omega))
    subst e
    rw [if_pos h3]
theorem m_oth (hB : B ≤ 16) {mkd : Nat → Bool} (hm : mkM B (a 4) mkd) {c : Nat} (hc : c < 4) {R : KS × Option Nat} {Q : Option Value → xW → Prop}
    (kn : ∀ aa vv, frM a aa v vv → R.2 = none → rpK B aa vv R.1 → Q (some (.int (-1))) (wM cc B aa vv))
    (ks : ∀ aa vv b, frM a aa v vv → R.2 = some b → rpK B aa vv (opn R.1 b c) → Q (some (.int (nI (b * 32)))) (wM cc B aa vv)) :
    ∀ (m b : Nat) (aa : Nat → Nat → Int32) (vv : Nat → Int32) (K' : KS), b + m = B → frM a aa v vv → bkOK B mkd K' → rpK B aa vv K' → fFree K' B = none → R = cOth mkd c m b K' →
    V none 100 Q (0, 0) 120 [(0, .ref 19), (1, .int (nI c)), (2, .int (-1)), (4, .int (nI b))] [.int (nI B), .int (nI b)] (wM cc B aa vv) := by
  intro m
  induction m with
  | zero =>
    intro b aa vv K' hb hf hK' hr' hfr hR
    refine V.brT rfl rfl (nI_le (by omega) (by omega)) ?_
    refine V.run 20 rfl ?_
    exact V.ri rfl (kn aa vv hf (by rw [hR]; rfl) (by rw [hR]; exact hr'))
  | succ m ih =>
    intro b aa vv K' hbm hf hK' hr' hfr hR
    have hb : b < B := by omega
    unfold cOth at hR
    refine V.brF rfl rfl (nI_ge hb (by omega)) ?_
    refine V.run 20 rfl ?_
    refine V.brF rfl rfl (fun h => h rfl) ?_
    refine V.run 20 rfl ?_
    by_cases h2 : K'.2.2.2.1 b = 1
    · refine V.zalE rfl rfl rfl (show b < 16 by omega) (by omega) ((hr'.2.2.2.1 b hb).trans h2) ?_
      refine V.brF rfl rfl (by decide) ?_
      refine V.run 20 rfl ?_
      refine V.ialE rfl rfl rfl (show b < 16 by omega) (by omega) (hr'.2.2.1 b hb) ?_
      refine V.run 20 rfl ?_
      by_cases h1 : K'.2.2.1 b = nI c
      · rw [if_neg (fun h => h.1 h1)] at hR
        refine V.brT rfl rfl h1 ?_
        refine V.run 20 rfl ?_
        rw [nI_add]
        exact ih (b + 1) aa vv K' (by omega) hf hK' hr' hfr hR
      · rw [if_pos ⟨h1, h2⟩] at hR
        refine V.brF rfl rfl h1 ?_
        refine V.run 20 rfl ?_
        refine V.cv rfl (m_sweepBlock hB (mkM_fr hm hf) hK' hr' hb) rfl rfl ?_
        rintro _ _ ⟨rfl, a1, v1, rfl, hf1, hr1⟩
        have hf2 := hf.tr hf1
        have hK1 := sw1_ok hK' hb
        have hsf := sw1_free (mkd := mkd) hb hfr
        refine V.run 20 rfl ?_
        refine V.ialE rfl rfl rfl (show b < 16 by omega) (by omega) (hr1.2.2.1 b hb) ?_
        refine V.run 20 rfl ?_
        by_cases h3 : (sw1 mkd K' b).2.2.1 b = -1
        · rw [if_pos h3] at hR hsf
          refine V.brF rfl rfl (fun h => h h3) ?_
          refine V.run 20 rfl ?_
          refine V.cv rfl (m_takeFree hB hr1 hc) rfl rfl ?_
          rintro _ _ ⟨rfl, a2, v2, rfl, hf3, hr3⟩
          unfold tkF at hr3
          rw [hsf] at hr3 ⊢
          refine V.run 20 rfl ?_
          exact m_rfin (b := b) (x := b * 32) (by omega) (ks a2 v2 b (hf2.tr hf3) (by rw [hR]) (by rw [hR]; exact hr3))
        · rw [if_neg h3] at hR hsf
          refine V.brT rfl rfl h3 ?_
          refine V.run 20 rfl ?_
          rw [nI_add]
          exact ih (b + 1) a1 v1 _ (by omega) hf2 hK1 hr1 hsf hR
    · have h2' : K'.2.2.2.1 b = 0 := by
        rcases hK'.2.1 b hb with h | h
        · exact h
        · exact absurd h.1 h2
      rw [if_neg (fun h => h2 h.2)] at hR
      refine V.zalE rfl rfl rfl (show b < 16 by omega) (by omega) ((hr'.2.2.2.1 b hb).trans h2') ?_
      refine V.brT rfl rfl rfl ?_
      refine V.run 20 rfl ?_
      rw [nI_add]
      exact ih (b + 1) aa vv K' (by omega) hf hK' hr' hfr hR
theorem m_room (hB : B ≤ 16) {K : KS} {mkd : Nat → Bool} (hm : mkM B (a 4) mkd) (hK : bkOK B mkd K) (hr : rpK B a v K) {c : Nat} (hc : c < 4) :
    Tot none kX5_room [.ref 19, .int (nI c)] (wM cc B a v) (fun o w' => o = some (.int (oA (fCell mkd B c K).2)) ∧ ∃ a' v', w' = wM cc B a' v' ∧ frM a a' v v' ∧ rpK B a' v' (fCell mkd B c K).1) := by
  refine eX5_room ?_
  refine V.run 20 rfl ?_
  refine V.cv rfl (m_emptyCell hB hK hr hc) rfl rfl ?_
  rintro _ _ ⟨rfl, rfl⟩
  refine V.run 20 rfl ?_
  unfold fCell
  cases h1 : ecA K c B 0 with
  | some x =>
    have hx := ecA_lt hc h1
    refine V.brF rfl rfl (oA_m1 (by omega)) ?_
    refine V.run 20 rfl ?_
    exact V.ri rfl ⟨rfl, a, v, rfl, frM.rf a v, hr⟩
  | none =>
    refine V.brT rfl rfl rfl ?_
    refine V.run 20 rfl ?_
    refine m_own hB (R := cOwn mkd c B 0 K) hm hc (fun a1 v1 hf1 hr1 => ?_) B 0 a v K (by omega) (frM.rf a v) hK hr rfl
    have hK1 := cOwn_ok (c := c) B 0 K (by omega) hK
    refine V.run 20 rfl ?_
    refine V.cv rfl (m_emptyCell hB hK1 hr1 hc) rfl rfl ?_
    rintro _ _ ⟨rfl, rfl⟩
    refine V.run 20 rfl ?_
    cases h2 : ecA (cOwn mkd c B 0 K) c B 0 with
    | some x =>
      have hx := ecA_lt hc h2
      refine V.brT rfl rfl (oA_m1 (by omega)) ?_
      refine V.run 20 rfl ?_
      exact m_rfin (b := 0) (x := x) (by omega) ⟨rfl, a1, v1, rfl, hf1, hr1⟩
    | none =>
      refine V.brF rfl rfl (fun h => h rfl) ?_
      refine V.run 20 rfl ?_
      refine V.cv rfl (m_takeFree hB hr1 hc) rfl rfl ?_
      rintro _ _ ⟨rfl, a2, v2, rfl, hf2, hr2⟩
      unfold tkF at hr2
      cases h3 : fFree (cOwn mkd c B 0 K) B with
      | some b =>
        rw [h3] at hr2
        have hb := ff_some h3
        refine V.run 20 rfl ?_
        exact m_rfin (b := 0) (x := b * 32) (by omega) ⟨rfl, a2, v2, rfl, hf1.tr hf2, hr2⟩
      | none =>
        rw [h3] at hr2
        refine V.run 20 rfl ?_
        refine m_oth (a := a2) (v := v2) (R := cOth mkd c B 0 (cOwn mkd c B 0 K)) hB (mkM_fr hm (hf1.tr hf2)) hc (fun aa vv hf hn hr' => ?_) (fun aa vv b hf hn hr' => ?_) B 0 a2 v2 _ (by omega) (frM.rf a2 v2) hK1 hr2 h3 rfl
        · cases h4 : cOth mkd c B 0 (cOwn mkd c B 0 K) with
          | mk K2 ob =>
            rw [h4] at hn hr'
            cases hn
            exact ⟨rfl, aa, vv, rfl, (hf1.tr hf2).tr hf, hr'⟩
        · cases h4 : cOth mkd c B 0 (cOwn mkd c B 0 K) with
          | mk K2 ob =>
            rw [h4] at hn hr'
            cases hn
            exact ⟨rfl, aa, vv, rfl, (hf1.tr hf2).tr hf, hr'⟩
end MR
