theorem ecB_congr {nm nm' : Nat → Int32} {b c : Nat} (hc : c < 4) (h : ∀ w, w / 32 = b → nm w = nm' w) : ecB nm b c = ecB nm' b c := by
  unfold ecB
  congr 1
  refine ff_congr (fun i _ hi => ?_)
  have := cw_in hc (show i < cpb c by omega)
  have := cwd_pos c
  rw [h _ (by omega)]
theorem opn_ok {B : Nat} {mkd : Nat → Bool} {K : KS} (h : bkOK B mkd K) {b c : Nat} (hb : K.2.2.1 b = -1) (hc : c < 4) : bkOK B mkd (opn K b c) := by
  obtain ⟨h1, h2, h3, h4, h5⟩ := h
  refine ⟨fun b' hb' => ?_, fun b' hb' => ?_, fun w hw hn => ?_, h4, h5⟩
  · show upd K.2.2.1 b (nI c) b' = -1 ∨ _
    by_cases q : b' = b
    · subst q; exact Or.inr ⟨c, hc, upd_s⟩
    · rw [upd_n q]
      rcases h1 b' hb' with e | ⟨d, hd, e⟩
      · exact Or.inl e
      · exact Or.inr ⟨d, hd, (upd_n q).trans e⟩
  · show K.2.2.2.1 b' = 0 ∨ K.2.2.2.1 b' = 1 ∧ upd K.2.2.1 b (nI c) b' ≠ -1
    by_cases q : b' = b
    · subst q
      rcases h2 b' hb' with e | e
      · exact Or.inl e
      · exact absurd hb e.2
    · rw [upd_n q]; exact h2 b' hb'
  · obtain ⟨d, hd, e1, e2⟩ := h3 w hw hn
    refine ⟨d, hd, ?_, e2⟩
    show upd K.2.2.1 b (nI c) (w / 32) = nI d
    by_cases q : w / 32 = b
    · rw [q, hb] at e1
      exact absurd e1 (m1_nI (by omega))
    · rw [upd_n q]; exact e1
theorem cOwn_ok {B : Nat} {mkd : Nat → Bool} {c : Nat} : ∀ (n b : Nat) (K : KS), b + n = B → bkOK B mkd K → bkOK B mkd (cOwn mkd c n b K)
  | 0, _, _, _, h => h
  | n + 1, b, K, hb, h => by
    unfold cOwn
    split
    · split
      · exact sw1_ok h (by omega)
      · exact cOwn_ok n (b + 1) _ (by omega) (sw1_ok h (by omega))
    · exact cOwn_ok n (b + 1) K (by omega) h
theorem cOth_ok {B : Nat} {mkd : Nat → Bool} {c : Nat} : ∀ (n b : Nat) (K : KS), b + n = B → bkOK B mkd K → bkOK B mkd (cOth mkd c n b K).1 ∧ ∀ x, (cOth mkd c n b K).2 = some x → x < B ∧ (cOth mkd c n b K).1.2.2.1 x = -1
  | 0, _, _, _, h => ⟨h, fun x hx => by simp [cOth] at hx⟩
  | n + 1, b, K, hb, h => by
    unfold cOth
    split
    · split
      · rename_i hf
        exact ⟨sw1_ok h (by omega), fun x hx => by cases hx; exact ⟨by omega, hf⟩⟩
      · exact cOth_ok n (b + 1) _ (by omega) (sw1_ok h (by omega))
    · exact cOth_ok n (b + 1) K (by omega) h
theorem bkOK_mk {B : Nat} {m1 m2 : Nat → Bool} {K : KS} (h : ∀ w, w < 32 * B → m1 w = m2 w) (hK : bkOK B m1 K) : bkOK B m2 K :=
  ⟨hK.1, hK.2.1, hK.2.2.1, hK.2.2.2.1, fun w hw hm => hK.2.2.2.2 w hw (by rw [h w hw]; exact hm)⟩
theorem swN_mk {B : Nat} {m1 m2 : Nat → Bool} (h : ∀ w, w < 32 * B → m1 w = m2 w) {nm : Nat → Int32} {b w : Nat} (hw : w < 32 * B) : swN m1 nm b w = swN m2 nm b w := by unfold swN; rw [h w hw]
theorem swW_mk {B : Nat} {m1 m2 : Nat → Bool} (h : ∀ w, w < 32 * B → m1 w = m2 w) {wt : Nat → Int32} {b w : Nat} (hw : w < 32 * B) : swW m1 wt b w = swW m2 wt b w := by unfold swW; rw [h w hw]
theorem blkE_mk {B : Nat} {m1 m2 : Nat → Bool} (h : ∀ w, w < 32 * B → m1 w = m2 w) {nm : Nat → Int32} {b : Nat} (hb : b < B) : blkE (swN m1 nm b) b = blkE (swN m2 nm b) b := by
  rw [Bool.eq_iff_iff, blkE_iff, blkE_iff]
  constructor
  · intro q w hw; rw [← swN_mk h (by omega)]; exact q w hw
  · intro q w hw; rw [swN_mk h (by omega)]; exact q w hw
theorem repK_mk {B : Nat} {a : Nat → Nat → Int32} {v : Nat → Int32} {m1 m2 : Nat → Bool} {K : KS} (h : ∀ w, w < 32 * B → m1 w = m2 w) {b : Nat} (hb : b < B) (hr : repK B a v (sw1 m1 K b)) : repK B a v (sw1 m2 K b) := by
  obtain ⟨r1, r2, r3, r4, r5⟩ := hr
  refine ⟨fun w hw => (r1 w hw).trans (swN_mk h hw), fun w hw => (r2 w hw).trans (swW_mk h hw), fun b' hb' => (r3 b' hb').trans ?_, r4, r5⟩
  show (if blkE (swN m1 K.1 b) b = true then upd K.2.2.1 b (-1) else K.2.2.1) b' = (if blkE (swN m2 K.1 b) b = true then upd K.2.2.1 b (-1) else K.2.2.1) b'
  rw [blkE_mk h hb]
section CFI
variable {B : Nat} {a : Nat → Nat → Int32} {v : Nat → Int32} {r : xW}
theorem c_cleanM (hB : B ≤ 16) {K : KS} {mkd : Nat → Bool} (hm : ∀ w, w < 32 * B → mkB (a 6) w = mkd w) (hK : bkOK B mkd K) (hr : repK B a v K) {b : Nat} (hb : b < B) (hu : K.2.2.2.1 b = 1) :
    Tot none kX0_clean [.ref 15, .int (nI b)] (wC B a v r) (fun o w' => o = none ∧ ∃ a' v', w' = wC B a' v' r ∧ frK B a a' v v' ∧ repK B a' v' (sw1 mkd K b)) := by
  refine (c_clean hB (bkOK_mk (fun w hw => (hm w hw).symm) hK) hr hb hu).mono ?_
  rintro o w' ⟨h1, a', v', h2, h3, h4⟩
  exact ⟨h1, a', v', h2, h3, repK_mk hm hb h4⟩
theorem c_clean0 : Tot none kX0_clean [.ref 15, .int (-1)] (wC B a v r) (rN (wC B a v r)) := by
  refine eX0_clean ?_
  refine V.run 20 rfl ?_
  refine V.cv rfl c_isUnswept0 rfl rfl ?_
  rintro _ _ ⟨rfl, rfl⟩
  refine V.brF rfl rfl (fun h => h i0_eq0) ?_
  exact V.rv rfl ⟨rfl, rfl⟩
theorem c_emptyCellOf (hB : B ≤ 16) {b c : Nat} (hb : b < B) (hc : c < 4) (h10 : a 10 b = nI c) : Tot none kX0_emptyCellOf [.ref 15, .int (nI b)] (wC B a v r) (rI (oA (ecB (a 0) b c)) (wC B a v r)) := by
  have hcp := cpb_le c hc
  have loop : ∀ (m i : Nat), i + m = cpb c → V none 19 (rI (oA ((ff (fun i => decide (a 0 (b * 32 + i * cwd c) = -1)) m i).map (fun i => b * 32 + i * cwd c))) (wC B a v r)) (0, 0) 10 [(0, .ref 15), (1, .int (nI b)), (2, .int (nI (cpb c))), (3, .int (nI i))] [.int (nI (cpb c)), .int (nI i)] (wC B a v r) := by
    intro m
    induction m with
    | zero =>
      intro i hi
      refine V.brT rfl rfl (nI_le (by omega) (by omega)) ?_
      refine V.run 20 rfl ?_
      exact V.ri rfl ⟨rfl, rfl⟩
    | succ m ih =>
      intro i hi
      have hic : i < cpb c := by omega
      have hcw := cw_in hc hic
      have hcp2 := cwd_pos c
      have hxB : b * 32 + i * cwd c < 32 * B := by omega
      have ih := ih (i + 1) (by omega)
      refine V.brF rfl rfl (nI_ge hic (by omega)) ?_
      refine V.run 20 rfl ?_
      refine V.cv rfl (c_cellOf hB hb hc h10) rfl rfl ?_
      rintro _ _ ⟨rfl, rfl⟩
      refine V.run 20 rfl ?_
      refine V.cv rfl (c_nameAt hB hxB) rfl rfl ?_
      rintro _ _ ⟨rfl, rfl⟩
      refine V.run 20 rfl ?_
      unfold ff
      by_cases hn : a 0 (b * 32 + i * cwd c) = -1
      · refine V.brF rfl rfl (fun h => h hn) ?_
        refine V.run 20 rfl ?_
        exact V.ri rfl ⟨by rw [hn]; rfl, rfl⟩
      · refine V.brT rfl rfl hn ?_
        refine V.run 20 rfl ?_
        rw [nI_add, show decide (a 0 (b * 32 + i * cwd c) = -1) = false from decide_eq_false hn]
        exact V.lt 4 rfl ih
  refine eX0_emptyCellOf ?_
  refine V.run 20 rfl ?_
  refine V.cv rfl (c_cellsIn hB hb hc h10) rfl rfl ?_
  rintro _ _ ⟨rfl, rfl⟩
  refine V.run 20 rfl ?_
  exact loop (cpb c) 0 (by omega)
theorem c_emptyCellOfK (hB : B ≤ 16) {K : KS} (hr : repK B a v K) {b c : Nat} (hb : b < B) (hc : c < 4) (hcl : K.2.2.1 b = nI c) : Tot none kX0_emptyCellOf [.ref 15, .int (nI b)] (wC B a v r) (rI (oA (ecB K.1 b c)) (wC B a v r)) := by
  rw [← ecB_congr hc (fun w hw => hr.1 w (by omega))]
  exact c_emptyCellOf hB hb hc ((hr.2.2.1 b hb).trans hcl)
theorem oA_m1 {x : Nat} (h : x < 2 ^ 31) : oA (some x) ≠ -1 := nI_m1 h
theorem c_emptyCell (hB : B ≤ 16) {K : KS} {mkd : Nat → Bool} (hK : bkOK B mkd K) (hr : repK B a v K) {c : Nat} (hc : c < 4) : Tot none kX0_emptyCell [.ref 15, .int (nI c)] (wC B a v r) (rI (oA (ecA K c B 0)) (wC B a v r)) := by
  have loop : ∀ (m b : Nat), b + m = B → V none 18 (rI (oA (ecA K c m b)) (wC B a v r)) (0, 0) 8 [(0, .ref 15), (1, .int (nI c)), (2, .int (nI b))] [.int (nI B), .int (nI b)] (wC B a v r) := by
    intro m
    induction m with
    | zero =>
      intro b hb
      refine V.brT rfl rfl (nI_le (by omega) (by omega)) ?_
      refine V.run 20 rfl ?_
      exact V.ri rfl ⟨rfl, rfl⟩
    | succ m ih =>
      intro b hbm
      have hb : b < B := by omega
      have ih := ih (b + 1) (by omega)
      refine V.brF rfl rfl (nI_ge hb (by omega)) ?_
      refine V.run 20 rfl ?_
      refine V.ialE rfl rfl rfl hb (by omega) (hr.2.2.1 b hb) ?_
      refine V.run 20 rfl ?_
      unfold ecA
      by_cases h1 : K.2.2.1 b = nI c
      · refine V.brF rfl rfl (fun h => h h1) ?_
        refine V.run 20 rfl ?_
        by_cases h2 : K.2.2.2.1 b = 0
        · refine V.cv rfl (c_isUnsweptE hB hb ((hr.2.2.2.1 b hb).trans h2) (Or.inl rfl)) rfl rfl ?_
          rintro _ _ ⟨rfl, rfl⟩
          refine V.brF rfl rfl (fun h => h rfl) ?_
          refine V.run 20 rfl ?_
          refine V.cv rfl (c_emptyCellOfK hB hr hb hc h1) rfl rfl ?_
          rintro _ _ ⟨rfl, rfl⟩
          rw [if_pos ⟨h1, h2⟩]
          refine V.run 20 rfl ?_
          cases he : ecB K.1 b c with
          | none =>
            refine V.brT rfl rfl rfl ?_
            refine V.run 20 rfl ?_
            rw [nI_add]
            exact V.lt 3 rfl ih
          | some x =>
            have hx := ecB_lt hc he
            refine V.brF rfl rfl (oA_m1 (by omega)) ?_
            refine V.run 20 rfl ?_
            exact V.ri rfl ⟨rfl, rfl⟩
        · have h2' : K.2.2.2.1 b = 1 := by
            rcases hK.2.1 b hb with h | h
            · exact absurd h h2
            · exact h.1
          refine V.cv rfl (c_isUnsweptE hB hb ((hr.2.2.2.1 b hb).trans h2') (Or.inr rfl)) rfl rfl ?_
          rintro _ _ ⟨rfl, rfl⟩
          refine V.brT rfl rfl (by decide) ?_
          rw [if_neg (fun h => h2 h.2)]
          refine V.run 20 rfl ?_
          rw [nI_add]
          exact ih
      · refine V.brT rfl rfl h1 ?_
        rw [if_neg (fun h => h1 h.1)]
        refine V.run 20 rfl ?_
        rw [nI_add]
        exact ih
  refine eX0_emptyCell ?_
  refine V.run 20 rfl ?_
  exact loop B 0 (by omega)
theorem c_firstFree (hB : B ≤ 16) {K : KS} (hr : repK B a v K) : Tot none kX0_firstFree [.ref 15] (wC B a v r) (rI (oA (fFree K B)) (wC B a v r)) := by
  have loop : ∀ (m b : Nat), b + m = B → V none 22 (rI (oA (ff (fun b => decide (K.2.2.1 b = -1)) m b)) (wC B a v r)) (0, 0) 8 [(0, .ref 15), (1, .int (nI b))] [.int (nI B), .int (nI b)] (wC B a v r) := by
    intro m
    induction m with
    | zero =>
      intro b hb
      refine V.brT rfl rfl (nI_le (by omega) (by omega)) ?_
      refine V.run 20 rfl ?_
      exact V.ri rfl ⟨rfl, rfl⟩
    | succ m ih =>
      intro b hbm
      have hb : b < B := by omega
      have ih := ih (b + 1) (by omega)
      refine V.brF rfl rfl (nI_ge hb (by omega)) ?_
      refine V.run 20 rfl ?_
      refine V.ialE rfl rfl rfl hb (by omega) (hr.2.2.1 b hb) ?_
      refine V.run 20 rfl ?_
      unfold ff
      by_cases h1 : K.2.2.1 b = -1
      · refine V.brF rfl rfl (fun h => h h1) ?_
        refine V.run 20 rfl ?_
        exact V.ri rfl ⟨by rw [h1]; rfl, rfl⟩
      · refine V.brT rfl rfl h1 ?_
        refine V.run 20 rfl ?_
        rw [nI_add, show decide (K.2.2.1 b = -1) = false from decide_eq_false h1]
        exact ih
  refine eX0_firstFree ?_
  refine V.run 20 rfl ?_
  exact loop B 0 (by omega)
theorem mk_fr {a' : Nat → Nat → Int32} {v' : Nat → Int32} {mkd : Nat → Bool} (hm : ∀ w, w < 32 * B → mkB (a 6) w = mkd w) (h : frK B a a' v v') : ∀ w, w < 32 * B → mkB (a' 6) w = mkd w := by rw [h.1 6 (by omega) (by omega) (by omega) (by omega) (by omega)]; exact hm
theorem c_cleanOwn (hB : B ≤ 16) {K : KS} {mkd : Nat → Bool} (hm : ∀ w, w < 32 * B → mkB (a 6) w = mkd w) (hK : bkOK B mkd K) (hr : repK B a v K) {c : Nat} (hc : c < 4) :
    Tot none kX0_cleanOwn [.ref 15, .int (nI c)] (wC B a v r) (fun o w' => o = none ∧ ∃ a' v', w' = wC B a' v' r ∧ frK B a a' v v' ∧ repK B a' v' (cOwn mkd c B 0 K)) := by
  have loop : ∀ (m b : Nat) (aa : Nat → Nat → Int32) (vv : Nat → Int32) (K' R : KS), b + m = B → frK B a aa v vv → bkOK B mkd K' → repK B aa vv K' → R = cOwn mkd c m b K' →
      V none 20 (fun o w' => o = none ∧ ∃ a' v', w' = wC B a' v' r ∧ frK B a a' v v' ∧ repK B a' v' R) (0, 0) 8 [(0, .ref 15), (1, .int (nI c)), (2, .int (nI b))] [.int (nI B), .int (nI b)] (wC B aa vv r) := by
    intro m
    induction m with
    | zero =>
      intro b aa vv K' R hb hf hK' hr' hR
      refine V.brT rfl rfl (nI_le (by omega) (by omega)) ?_
      exact V.rv rfl ⟨rfl, aa, vv, rfl, hf, by rw [hR]; exact hr'⟩
    | succ m ih =>
      intro b aa vv K' R hbm hf hK' hr' hR
      have hb : b < B := by omega
      unfold cOwn at hR
      refine V.brF rfl rfl (nI_ge hb (by omega)) ?_
      refine V.run 20 rfl ?_
      refine V.ialE rfl rfl rfl hb (by omega) (hr'.2.2.1 b hb) ?_
      refine V.run 20 rfl ?_
      by_cases h1 : K'.2.2.1 b = nI c
      · refine V.brF rfl rfl (fun h => h h1) ?_
        refine V.run 20 rfl ?_
        by_cases h2 : K'.2.2.2.1 b = 1
        · rw [if_pos ⟨h1, h2⟩] at hR
          refine V.cv rfl (c_isUnsweptE hB hb ((hr'.2.2.2.1 b hb).trans h2) (Or.inr rfl)) rfl rfl ?_
          rintro _ _ ⟨rfl, rfl⟩
          refine V.brF rfl rfl (by decide) ?_
          refine V.run 20 rfl ?_
          refine V.cv rfl (c_cleanM hB (mk_fr hm hf) hK' hr' hb h2) rfl rfl ?_
          rintro _ _ ⟨rfl, a1, v1, rfl, hf1, hr1⟩
          have hf2 := hf.tr hf1
          have hK1 := sw1_ok hK' hb
          refine V.run 20 rfl ?_
          refine V.ialE rfl rfl rfl hb (by omega) (hr1.2.2.1 b hb) ?_
          refine V.run 20 rfl ?_
          by_cases h3 : (sw1 mkd K' b).2.2.1 b = -1
          · rw [if_pos (Or.inl h3)] at hR
            refine V.brT rfl rfl h3 ?_
            exact V.rv rfl ⟨rfl, a1, v1, rfl, hf2, by rw [hR]; exact hr1⟩
          · refine V.brF rfl rfl h3 ?_
            refine V.run 20 rfl ?_
            have h4 : (sw1 mkd K' b).2.2.1 b = nI c := by
              have e : (sw1 mkd K' b).2.2.1 b = (if blkE (swN mkd K'.1 b) b = true then upd K'.2.2.1 b (-1) else K'.2.2.1) b := rfl
              rw [e] at h3 ⊢
              by_cases q : blkE (swN mkd K'.1 b) b = true
              · rw [if_pos q, upd_s] at h3; exact absurd rfl h3
              · rw [if_neg q]; exact h1
            refine V.cv rfl (c_emptyCellOfK hB hr1 hb hc h4) rfl rfl ?_
            rintro _ _ ⟨rfl, rfl⟩
            refine V.run 20 rfl ?_
            cases he : ecB (sw1 mkd K' b).1 b c with
            | none =>
              rw [he, if_neg (by rintro (h | h); exact h3 h; exact h rfl)] at hR
              refine V.brT rfl rfl rfl ?_
              refine V.run 20 rfl ?_
              rw [nI_add]
              exact ih (b + 1) a1 v1 _ R (by omega) hf2 hK1 hr1 hR
            | some x =>
              have hx := ecB_lt hc he
              rw [he, if_pos (Or.inr (by simp))] at hR
              refine V.brF rfl rfl (oA_m1 (by omega)) ?_
              exact V.rv rfl ⟨rfl, a1, v1, rfl, hf2, by rw [hR]; exact hr1⟩
        · have h2' : K'.2.2.2.1 b = 0 := by
            rcases hK'.2.1 b hb with h | h
            · exact h
            · exact absurd h.1 h2
          rw [if_neg (fun h => h2 h.2)] at hR
          refine V.cv rfl (c_isUnsweptE hB hb ((hr'.2.2.2.1 b hb).trans h2') (Or.inl rfl)) rfl rfl ?_
          rintro _ _ ⟨rfl, rfl⟩
          refine V.brT rfl rfl rfl ?_
          refine V.run 20 rfl ?_
          rw [nI_add]
          exact ih (b + 1) aa vv K' R (by omega) hf hK' hr' hR
      · rw [if_neg (fun h => h1 h.1)] at hR
        refine V.brT rfl rfl h1 ?_
        refine V.run 20 rfl ?_
        rw [nI_add]
        exact ih (b + 1) aa vv K' R (by omega) hf hK' hr' hR
  refine eX0_cleanOwn ?_
  refine V.run 20 rfl ?_
  exact loop B 0 a v K _ (by omega) (frK.rf B a v) hK hr rfl
theorem c_cleanOthers (hB : B ≤ 16) {K : KS} {mkd : Nat → Bool} (hm : ∀ w, w < 32 * B → mkB (a 6) w = mkd w) (hK : bkOK B mkd K) (hr : repK B a v K) {c : Nat} (hc : c < 4) :
    Tot none kX0_cleanOthers [.ref 15, .int (nI c)] (wC B a v r) (fun o w' => o = some (.int (oA (cOth mkd c B 0 K).2)) ∧ ∃ a' v', w' = wC B a' v' r ∧ frK B a a' v v' ∧ repK B a' v' (cOth mkd c B 0 K).1) := by
  have loop : ∀ (m b : Nat) (aa : Nat → Nat → Int32) (vv : Nat → Int32) (K' : KS) (R : KS × Option Nat), b + m = B → frK B a aa v vv → bkOK B mkd K' → repK B aa vv K' → R = cOth mkd c m b K' →
      V none 21 (fun o w' => o = some (.int (oA R.2)) ∧ ∃ a' v', w' = wC B a' v' r ∧ frK B a a' v v' ∧ repK B a' v' R.1) (0, 0) 8 [(0, .ref 15), (1, .int (nI c)), (2, .int (nI b))] [.int (nI B), .int (nI b)] (wC B aa vv r) := by
    intro m
    induction m with
    | zero =>
      intro b aa vv K' R hb hf hK' hr' hR
      refine V.brT rfl rfl (nI_le (by omega) (by omega)) ?_
      refine V.run 20 rfl ?_
      exact V.ri rfl ⟨by rw [hR]; rfl, aa, vv, rfl, hf, by rw [hR]; exact hr'⟩
    | succ m ih =>
      intro b aa vv K' R hbm hf hK' hr' hR
      have hb : b < B := by omega
      unfold cOth at hR
      refine V.brF rfl rfl (nI_ge hb (by omega)) ?_
      refine V.run 20 rfl ?_
      refine V.ialE rfl rfl rfl hb (by omega) (hr'.2.2.1 b hb) ?_
      refine V.run 20 rfl ?_
      by_cases h1 : K'.2.2.1 b = nI c
      · rw [if_neg (fun h => h.1 h1)] at hR
        refine V.brT rfl rfl h1 ?_
        refine V.run 20 rfl ?_
        rw [nI_add]
        exact ih (b + 1) aa vv K' R (by omega) hf hK' hr' hR
      · refine V.brF rfl rfl h1 ?_
        refine V.run 20 rfl ?_
        by_cases h2 : K'.2.2.2.1 b = 1
        · rw [if_pos ⟨h1, h2⟩] at hR
          refine V.cv rfl (c_isUnsweptE hB hb ((hr'.2.2.2.1 b hb).trans h2) (Or.inr rfl)) rfl rfl ?_
          rintro _ _ ⟨rfl, rfl⟩
          refine V.brF rfl rfl (by decide) ?_
          refine V.run 20 rfl ?_
          refine V.cv rfl (c_cleanM hB (mk_fr hm hf) hK' hr' hb h2) rfl rfl ?_
          rintro _ _ ⟨rfl, a1, v1, rfl, hf1, hr1⟩
          have hf2 := hf.tr hf1
          have hK1 := sw1_ok hK' hb
          refine V.run 20 rfl ?_
          refine V.ialE rfl rfl rfl hb (by omega) (hr1.2.2.1 b hb) ?_
          refine V.run 20 rfl ?_
          by_cases h3 : (sw1 mkd K' b).2.2.1 b = -1
          · rw [if_pos h3] at hR
            refine V.brF rfl rfl (fun h => h h3) ?_
            refine V.run 20 rfl ?_
            exact V.ri rfl ⟨by rw [hR]; rfl, a1, v1, rfl, hf2, by rw [hR]; exact hr1⟩
          · rw [if_neg h3] at hR
            refine V.brT rfl rfl h3 ?_
            refine V.run 20 rfl ?_
            rw [nI_add]
            exact ih (b + 1) a1 v1 _ R (by omega) hf2 hK1 hr1 hR
        · have h2' : K'.2.2.2.1 b = 0 := by
            rcases hK'.2.1 b hb with h | h
            · exact h
            · exact absurd h.1 h2
          rw [if_neg (fun h => h2 h.2)] at hR
          refine V.cv rfl (c_isUnsweptE hB hb ((hr'.2.2.2.1 b hb).trans h2') (Or.inl rfl)) rfl rfl ?_
          rintro _ _ ⟨rfl, rfl⟩
          refine V.brT rfl rfl rfl ?_
          refine V.run 20 rfl ?_
          rw [nI_add]
          exact ih (b + 1) aa vv K' R (by omega) hf hK' hr' hR
  refine eX0_cleanOthers ?_
  refine V.run 20 rfl ?_
  exact loop B 0 a v K _ (by omega) (frK.rf B a v) hK hr rfl
theorem c_open (hB : B ≤ 16) {K : KS} (hr : repK B a v K) {b c : Nat} (hb : b < B) (hc : c < 4) :
    Tot none kX0_open [.ref 15, .int (nI b), .int (nI c)] (wC B a v r) (fun o w' => o = some (.int (nI (b * 32))) ∧ ∃ a' v', w' = wC B a' v' r ∧ frK B a a' v v' ∧ repK B a' v' (opn K b c)) := by
  refine eX0_open ?_
  refine V.run 20 rfl ?_
  refine V.cv rfl (c_has hB hb) rfl rfl ?_
  rintro _ _ ⟨rfl, rfl⟩
  refine V.brT rfl rfl i1_ne0 ?_
  refine V.run 20 rfl ?_
  refine V.iast (w' := wC B (uA a 10 b (nI c)) v r) rfl rfl rfl hb (by omega) rfl ?_
  refine V.run 20 rfl ?_
  refine V.cv rfl (c_cellOf (i := 0) hB hb hc (show upd (a 10) b (nI c) b = nI c from upd_s)) rfl rfl ?_
  rintro _ _ ⟨rfl, rfl⟩
  refine V.ri rfl ⟨by rw [Nat.zero_mul, Nat.add_zero], _, _, rfl, ⟨fun i p1 p2 p3 p4 p5 => ?_, fun _ _ => rfl, fun _ _ _ => ⟨rfl, rfl⟩⟩, hr.1, hr.2.1, fun b' hb' => ?_, hr.2.2.2.1, hr.2.2.2.2⟩
  · have : Nat.beq i 10 = false := by rw [Bool.eq_false_iff]; exact fun z => p4 (Nat.eq_of_beq_eq_true z)
    simp [uA, this]
  · show upd (a 10) b (nI c) b' = upd K.2.2.1 b (nI c) b'
    by_cases q : b' = b
    · subst q; rw [upd_s, upd_s]
    · rw [upd_n q, upd_n q]; exact hr.2.2.1 b' hb'
theorem c_open0 {z : Int32} : Tot none kX0_open [.ref 15, .int (-1), .int z] (wC B a v r) (rI (-1) (wC B a v r)) := by
  refine eX0_open ?_
  refine V.run 20 rfl ?_
  refine V.cv rfl (c_has0 (Or.inl m1_lt0)) rfl rfl ?_
  rintro _ _ ⟨rfl, rfl⟩
  refine V.brF rfl rfl (fun h => h i0_eq0) ?_
  refine V.run 20 rfl ?_
  exact V.ri rfl ⟨rfl, rfl⟩
theorem ecA_lt {K : KS} {c x : Nat} (hc : c < 4) : ∀ {n b : Nat}, ecA K c n b = some x → x / 32 < b + n ∧ x % 32 % cwd c = 0 ∧ K.1 x = -1 ∧ K.2.2.1 (x / 32) = nI c ∧ K.2.2.2.1 (x / 32) = 0
  | 0, _, h => by simp [ecA] at h
  | n + 1, b, h => by
    unfold ecA at h
    split at h
    · rename_i hcl
      cases he : ecB K.1 b c with
      | none =>
        rw [he] at h
        have := ecA_lt hc h
        exact ⟨by omega, this.2⟩
      | some y =>
        rw [he] at h
        cases h
        obtain ⟨e1, e2, e3⟩ := ecB_lt hc he
        exact ⟨by omega, e2, e3, by rw [e1]; exact hcl.1, by rw [e1]; exact hcl.2⟩
    · have := ecA_lt hc h
      exact ⟨by omega, this.2⟩
theorem c_findCell (hB : B ≤ 16) {K : KS} {mkd : Nat → Bool} (hm : ∀ w, w < 32 * B → mkB (a 6) w = mkd w) (hK : bkOK B mkd K) (hr : repK B a v K) {c : Nat} (hc : c < 4) :
    Tot none kX0_findCell [.ref 15, .int (nI c)] (wC B a v r) (fun o w' => o = some (.int (oA (fCell mkd B c K).2)) ∧ ∃ a' v', w' = wC B a' v' r ∧ frK B a a' v v' ∧ repK B a' v' (fCell mkd B c K).1) := by
  refine eX0_findCell ?_
  refine V.run 20 rfl ?_
  refine V.cv rfl (c_emptyCell hB hK hr hc) rfl rfl ?_
  rintro _ _ ⟨rfl, rfl⟩
  refine V.run 20 rfl ?_
  unfold fCell
  cases h1 : ecA K c B 0 with
  | some x =>
    have hx := ecA_lt hc h1
    refine V.brT rfl rfl (oA_m1 (by omega)) ?_
    refine V.run 20 rfl ?_
    refine V.brF rfl rfl (oA_m1 (by omega)) ?_
    refine V.run 20 rfl ?_
    exact V.ri rfl ⟨rfl, a, v, rfl, frK.rf B a v, hr⟩
  | none =>
    refine V.brF rfl rfl (fun h => h rfl) ?_
    refine V.run 20 rfl ?_
    refine V.cv rfl (c_cleanOwn hB hm hK hr hc) rfl rfl ?_
    rintro _ _ ⟨rfl, a1, v1, rfl, hf1, hr1⟩
    have hK1 := cOwn_ok (c := c) B 0 K (by omega) hK
    refine V.run 20 rfl ?_
    refine V.cv rfl (c_emptyCell hB hK1 hr1 hc) rfl rfl ?_
    rintro _ _ ⟨rfl, rfl⟩
    refine V.run 20 rfl ?_
    cases h2 : ecA (cOwn mkd c B 0 K) c B 0 with
    | some x =>
      have hx := ecA_lt hc h2
      refine V.brF rfl rfl (oA_m1 (by omega)) ?_
      refine V.run 20 rfl ?_
      exact V.ri rfl ⟨rfl, a1, v1, rfl, hf1, hr1⟩
    | none =>
      refine V.brT rfl rfl rfl ?_
      refine V.run 20 rfl ?_
      refine V.cv rfl (c_firstFree hB hr1) rfl rfl ?_
      rintro _ _ ⟨rfl, rfl⟩
      refine V.run 20 rfl ?_
      cases h3 : fFree (cOwn mkd c B 0 K) B with
      | some b =>
        have hb := ff_some h3
        refine V.brT rfl rfl (oA_m1 (by omega)) ?_
        refine V.run 20 rfl ?_
        refine V.cv rfl (c_open hB hr1 (show b < B by omega) hc) rfl rfl ?_
        rintro _ _ ⟨rfl, a2, v2, rfl, hf2, hr2⟩
        exact V.ri rfl ⟨rfl, a2, v2, rfl, hf1.tr hf2, hr2⟩
      | none =>
        refine V.brF rfl rfl (fun h => h rfl) ?_
        refine V.run 20 rfl ?_
        refine V.cv rfl (c_cleanOthers hB (mk_fr hm hf1) hK1 hr1 hc) rfl rfl ?_
        rintro _ _ ⟨rfl, a2, v2, rfl, hf2, hr2⟩
        refine V.run 20 rfl ?_
        have hK2 := cOth_ok (c := c) B 0 _ (by omega) hK1
        cases h4 : cOth mkd c B 0 (cOwn mkd c B 0 K) with
        | mk K2 ob =>
          rw [h4] at hr2 hK2
          cases ob with
          | some b =>
            have hb := hK2.2 b rfl
            refine V.cv rfl (c_open hB hr2 hb.1 hc) rfl rfl ?_
            rintro _ _ ⟨rfl, a3, v3, rfl, hf3, hr3⟩
            exact V.ri rfl ⟨rfl, a3, v3, rfl, (hf1.tr hf2).tr hf3, hr3⟩
          | none =>
            refine V.cv rfl (c_open0) rfl rfl ?_
            rintro _ _ ⟨rfl, rfl⟩
            exact V.ri rfl ⟨rfl, a2, v2, rfl, hf1.tr hf2, hr2⟩
end CFI
