/-! what is kept -/
def Kle (B : Nat) (mkd : Nat → Bool) (K K' : KS) : Prop :=
  bkOK B mkd K' ∧ (∀ x, x < 32 * B → K'.1 x ≠ -1 → K'.1 x = K.1 x ∧ K'.2.2.1 (x / 32) = K.2.2.1 (x / 32)) ∧
  (∀ x, x < 32 * B → ((K.1 x ≠ -1 ∧ (mkd x = true ∨ K.2.2.2.1 (x / 32) = 0)) ↔ (K'.1 x ≠ -1 ∧ (mkd x = true ∨ K'.2.2.2.1 (x / 32) = 0)))) ∧
  (∀ x, x < 32 * B → K'.2.1 x = 1 → K.2.1 x = 1)
theorem Kle.rf {B : Nat} {mkd : Nat → Bool} {K : KS} (h : bkOK B mkd K) : Kle B mkd K K := ⟨h, fun _ _ _ => ⟨rfl, rfl⟩, fun _ _ => Iff.rfl, fun _ _ h => h⟩
theorem Kle.tr {B : Nat} {mkd : Nat → Bool} {K K' K'' : KS} (h1 : Kle B mkd K K') (h2 : Kle B mkd K' K'') : Kle B mkd K K'' := by
  refine ⟨h2.1, fun x hx hn => ?_, fun x hx => (h1.2.2.1 x hx).trans (h2.2.2.1 x hx), fun x hx h => h1.2.2.2 x hx (h2.2.2.2 x hx h)⟩
  obtain ⟨e1, e2⟩ := h2.2.1 x hx hn
  obtain ⟨e3, e4⟩ := h1.2.1 x hx (by rw [← e1]; exact hn)
  exact ⟨e1.trans e3, e2.trans e4⟩
theorem sw1_le {B : Nat} {mkd : Nat → Bool} {K : KS} (h : bkOK B mkd K) {b : Nat} (hb : b < B) (hu : K.2.2.2.1 b = 1) : Kle B mkd K (sw1 mkd K b) := by
  have io : ∀ w, (w / 32 = b ∧ mkd w = false) ∨ (w / 32 ≠ b ∨ mkd w = true) := by
    intro w
    by_cases q : w / 32 = b
    · cases hm : mkd w
      · exact Or.inl ⟨q, rfl⟩
      · exact Or.inr (Or.inr rfl)
    · exact Or.inr (Or.inl q)
  refine ⟨sw1_ok h hb, fun x hx hn => ?_, fun x hx => ?_, fun x hx hw => ?_⟩
  · have hn' : swN mkd K.1 b x ≠ -1 := hn
    rcases io x with ⟨q, hm⟩ | q
    · exact absurd (swN_in q hm) hn'
    · refine ⟨swN_out q, ?_⟩
      show (if blkE (swN mkd K.1 b) b = true then upd K.2.2.1 b (-1) else K.2.2.1) (x / 32) = _
      split
      · rename_i he
        by_cases q2 : x / 32 = b
        · exact absurd (blkE_iff.mp he x q2) hn'
        · exact upd_n q2
      · rfl
  · show (K.1 x ≠ -1 ∧ (mkd x = true ∨ K.2.2.2.1 (x / 32) = 0)) ↔ (swN mkd K.1 b x ≠ -1 ∧ (mkd x = true ∨ upd K.2.2.2.1 b 0 (x / 32) = 0))
    by_cases q : x / 32 = b
    · rw [q, upd_s, hu]
      cases hm : mkd x with
      | true => rw [swN_out (Or.inr hm)]; simp
      | false => rw [swN_in q hm]; simp
    · rw [swN_out (Or.inl q), upd_n q]
  · have hw' : swW mkd K.2.1 b x = 1 := hw
    rcases io x with ⟨q, hm⟩ | q
    · rw [swW_in q hm] at hw'; exact absurd hw' (by decide)
    · rw [swW_out q] at hw'; exact hw'
theorem free_nm {B : Nat} {mkd : Nat → Bool} {K : KS} (h : bkOK B mkd K) {x : Nat} (hx : x < 32 * B) (hf : K.2.2.1 (x / 32) = -1) : K.1 x = -1 := by
  by_cases q : K.1 x = -1
  · exact q
  · obtain ⟨c, hc, e, -⟩ := h.2.2.1 x hx q
    rw [hf] at e
    exact absurd e (m1_nI (by omega))
theorem opn_le {B : Nat} {mkd : Nat → Bool} {K : KS} (h : bkOK B mkd K) {b c : Nat} (hf : K.2.2.1 b = -1) (hc : c < 4) : Kle B mkd K (opn K b c) := by
  refine ⟨opn_ok h hf hc, fun x hx hn => ⟨rfl, ?_⟩, fun x hx => Iff.rfl, fun x hx hw => hw⟩
  show upd K.2.2.1 b (nI c) (x / 32) = _
  by_cases q : x / 32 = b
  · exact absurd (free_nm h hx (by rw [q]; exact hf)) hn
  · exact upd_n q
theorem cOwn_le {B : Nat} {mkd : Nat → Bool} {c : Nat} : ∀ (n b : Nat) (K : KS), b + n = B → bkOK B mkd K → Kle B mkd K (cOwn mkd c n b K)
  | 0, _, _, _, h => Kle.rf h
  | n + 1, b, K, hb, h => by
    unfold cOwn
    split
    · rename_i hc
      have h1 := sw1_le h (show b < B by omega) hc.2
      split
      · exact h1
      · exact h1.tr (cOwn_le n (b + 1) _ (by omega) h1.1)
    · exact cOwn_le n (b + 1) K (by omega) h
theorem cOth_le {B : Nat} {mkd : Nat → Bool} {c : Nat} : ∀ (n b : Nat) (K : KS), b + n = B → bkOK B mkd K → Kle B mkd K (cOth mkd c n b K).1
  | 0, _, _, _, h => Kle.rf h
  | n + 1, b, K, hb, h => by
    unfold cOth
    split
    · rename_i hc
      have h1 := sw1_le h (show b < B by omega) hc.2
      split
      · exact h1
      · exact h1.tr (cOth_le n (b + 1) _ (by omega) h1.1)
    · exact cOth_le n (b + 1) K (by omega) h
/-- a cell that was found: empty, in a swept block of its class -/
def isC (B c : Nat) (K : KS) (x : Nat) : Prop := x < 32 * B ∧ K.1 x = -1 ∧ K.2.2.1 (x / 32) = nI c ∧ K.2.2.2.1 (x / 32) = 0 ∧ x % 32 % cwd c = 0
theorem opn_C {B : Nat} {mkd : Nat → Bool} {K : KS} (h : bkOK B mkd K) {b c : Nat} (hb : b < B) (hf : K.2.2.1 b = -1) : isC B c (opn K b c) (b * 32) := by
  have e : b * 32 / 32 = b := by omega
  refine ⟨by omega, free_nm h (by omega) (by rw [e]; exact hf), ?_, ?_, ?_⟩
  · rw [e]; exact upd_s
  · rw [e]
    show K.2.2.2.1 b = 0
    rcases h.2.1 b hb with q | q
    · exact q
    · exact absurd hf q.2
  · rw [Nat.mul_mod_left, Nat.zero_mod]
theorem fCell_le {B : Nat} {mkd : Nat → Bool} {c : Nat} {K : KS} (hc : c < 4) (h : bkOK B mkd K) : Kle B mkd K (fCell mkd B c K).1 ∧ ∀ x, (fCell mkd B c K).2 = some x → isC B c (fCell mkd B c K).1 x := by
  have hA : ∀ {K' : KS} {x : Nat}, ecA K' c B 0 = some x → isC B c K' x := by
    intro K' x hx
    obtain ⟨e1, e2, e3, e4, e5⟩ := ecA_lt hc hx
    exact ⟨by omega, e3, e4, e5, e2⟩
  unfold fCell
  cases h1 : ecA K c B 0 with
  | some x => exact ⟨Kle.rf h, fun y hy => by cases hy; exact hA h1⟩
  | none =>
    have l1 := cOwn_le (c := c) B 0 K (by omega) h
    dsimp only
    cases h2 : ecA (cOwn mkd c B 0 K) c B 0 with
    | some x => exact ⟨l1, fun y hy => by cases hy; exact hA h2⟩
    | none =>
      dsimp only
      cases h3 : fFree (cOwn mkd c B 0 K) B with
      | some b =>
        obtain ⟨-, hb, hf, -⟩ := ff_some h3
        have hf := of_decide_eq_true hf
        exact ⟨l1.tr (opn_le l1.1 hf hc), fun y hy => by cases hy; exact opn_C l1.1 (by omega) hf⟩
      | none =>
        dsimp only
        have l2 := cOth_le (c := c) B 0 _ (by omega) l1.1
        have o2 := cOth_ok (c := c) B 0 _ (by omega) l1.1
        cases h4 : cOth mkd c B 0 (cOwn mkd c B 0 K) with
        | mk K2 ob =>
          rw [h4] at l2 o2
          cases ob with
          | none => exact ⟨l1.tr l2, fun y hy => by cases hy⟩
          | some b =>
            obtain ⟨hb, hf⟩ := o2.2 b rfl
            exact ⟨(l1.tr l2).tr (opn_le l2.1 hf hc), fun y hy => by cases hy; exact opn_C l2.1 hb hf⟩
theorem hpOK_iff {N : Nat} {fd kd vl : Nat → Int32} {G G' : Nat → Prop} (h : ∀ x, G x ↔ G' x) (hp : hpOK N fd kd vl G) : hpOK N fd kd vl G' := by
  intro x hx
  obtain ⟨h1, h2, m, h3, h4, h5, h6⟩ := hp x ((h x).mpr hx)
  refine ⟨h1, h2, m, h3, h4, h5, fun j hj => ?_⟩
  rcases h6 j hj with q | ⟨q, y, hy, hg⟩
  · exact Or.inl q
  · exact Or.inr ⟨q, y, hy, (h y).mp hg⟩
theorem Inv.le {B n : Nat} {s : AS} (hI : Inv B n s) {K' : KS} (hK : Kle B (sB s) (sK s) K') : Inv B n (K', s.2) := by
  obtain ⟨i1, i2, i3, i4, i5, ⟨M, hM, hMs, i6⟩, i7, i8⟩ := hI
  have hs : ∀ x, safe B s x ↔ safe B (K', s.2) x := by
    intro x
    unfold safe
    constructor
    · rintro ⟨h1, h2⟩; exact ⟨h1, (hK.2.2.1 x h1).mp h2⟩
    · rintro ⟨h1, h2⟩; exact ⟨h1, (hK.2.2.1 x h1).mpr h2⟩
  refine ⟨hK.1, hpOK_iff hs i2, fun i hi => ?_, ⟨i4.1, fun y hy => (hs y).mp (i4.2 y hy)⟩, ⟨fun w hw => ?_, fun w hw h => ?_, fun x y hx hy h1 h2 h3 => ?_⟩, ⟨M, hM, hMs, fun x hx hn => ?_⟩, fun x y hx hy hn he => ?_, fun x hx hn => ?_⟩
  · rcases i3 i hi with q | ⟨x, hx, hg⟩
    · exact Or.inl q
    · exact Or.inr ⟨x, hx, (hs x).mp hg⟩
  · exact (hK.1.2.2.2.1 w hw).imp id And.left
  · exact (hs w).mp (i5.2.1 w hw (hK.2.2.2 w hw h))
  · have w1 := hK.2.2.2 x hx h1
    have w2 := hK.2.2.2 y hy h2
    have n1 := ((hs x).mp (i5.2.1 x hx w1)).2.1
    have n2 := ((hs y).mp (i5.2.1 y hy w2)).2.1
    exact i5.2.2 x y hx hy w1 w2 (by rw [← (hK.2.1 x hx n1).1, ← (hK.2.1 y hy n2).1]; exact h3)
  · have e := (hK.2.1 x hx hn).1
    obtain ⟨m, h1, h2⟩ := i6 x hx (by rw [← e]; exact hn)
    exact ⟨m, h1, e.trans h2⟩
  · have he' : K'.1 x = K'.1 y := he
    have hny : K'.1 y ≠ -1 := by rw [← he']; exact hn
    have e1 := (hK.2.1 x hx hn).1
    have e2 := (hK.2.1 y hy hny).1
    exact i7 x y hx hy (by rw [← e1]; exact hn) (by rw [← e1, ← e2]; exact he')
  · obtain ⟨e1, e2⟩ := hK.2.1 x hx hn
    obtain ⟨m, h1, h2, h3⟩ := i8 x hx (by rw [← e1]; exact hn)
    exact ⟨m, h1, h2, e2.trans h3⟩
theorem Inv.mono {B n n' : Nat} {s : AS} (hI : Inv B n s) (h : n ≤ n') : Inv B n' s := by
  obtain ⟨i1, i2, i3, i4, i5, ⟨M, hM, hMs, i6⟩, i7, i8⟩ := hI
  exact ⟨i1, i2, i3, i4, i5, ⟨M, by omega, hMs, i6⟩, i7, i8⟩
theorem Inv_mrk {B n : Nat} (hB : B ≤ 16) {s : AS} (hI : Inv B n s) : Inv B n (mrk B s) := by
  obtain ⟨i1, i2, i3, i4, i5, i6, i7, i8⟩ := hI
  obtain ⟨m1, m2, m3, m4, m5, m6, m7⟩ := mrk_facts (nm := (sK s).1) (wt := (sK s).2.1) hB i2 i3 i4.2 i5
  have hN : 32 * B < 2 ^ 31 := by omega
  have hs : ∀ x, safe B (mrk B s) x ↔ x ∈ mL3 B (sK s).1 (sF s) (sK s).2.1 (sD s) (sV s) (sR s) (sQ s) := by
    intro x
    constructor
    · rintro ⟨h1, h2, h3⟩
      have h2 : (sK s).1 x ≠ -1 := h2
      have h3 : decide (x ∈ mL3 B (sK s).1 (sF s) (sK s).2.1 (sD s) (sV s) (sR s) (sQ s)) = true ∨ (if (sK s).2.2.1 (x / 32) = -1 then (0 : Int32) else 1) = 0 := h3
      rcases h3 with h3 | h3
      · exact of_decide_eq_true h3
      · split at h3
        · rename_i hf
          exact absurd (free_nm i1 h1 hf) h2
        · exact absurd h3 (by decide)
    · intro h
      have hg := m4.2 x h
      exact ⟨hg.1, hg.2.1, Or.inl (decide_eq_true h)⟩
  refine ⟨⟨i1.1, fun b hb => ?_, i1.2.2.1, fun w hw => ?_, fun w hw hm => ?_⟩, fun x hx => ?_, fun i hi => ?_, ⟨?_, fun y hy => ?_⟩, ⟨fun w hw => ?_, fun w hw h => ?_, fun x y hx hy h1 h2 h3 => ?_⟩, i6, i7, i8⟩
  · show (if (sK s).2.2.1 b = -1 then (0 : Int32) else 1) = 0 ∨ (if (sK s).2.2.1 b = -1 then (0 : Int32) else 1) = 1 ∧ (sK s).2.2.1 b ≠ -1
    split
    · exact Or.inl rfl
    · rename_i h; exact Or.inr ⟨rfl, h⟩
  · show mW B (sF s) (sK s).2.1 (sD s) (sV s) (sR s) (sQ s) w = 0 ∨ mW B (sF s) (sK s).2.1 (sD s) (sV s) (sR s) (sQ s) w = 1 ∧ (sK s).1 w ≠ -1
    unfold mW wtQ
    cases hc : (Nat.ble (w + 1) (2 * (16 * B)) && (Nat.beq (w % 2) 0 && (decide ((sK s).2.1 w = 1) && !decide (w ∈ mL1 B (sF s) (sD s) (sV s) (sR s) (sQ s))))) with
    | true => exact Or.inl rfl
    | false => exact i1.2.2.2.1 w hw
  · exact (m4.2 w (of_decide_eq_true hm)).2.1
  · have hx := (hs x).mp hx
    obtain ⟨h1, h2, m, h3, h4, h5, h6⟩ := i2 x (m4.2 x hx)
    refine ⟨h1, h2, m, h3, h4, h5, fun j hj => ?_⟩
    have hin : inF (sF s) (mL3 B (sK s).1 (sF s) (sK s).2.1 (sD s) (sV s) (sR s) (sQ s)) (x + 1 + j) = true := by
      unfold inF
      rw [List.any_eq_true]
      refine ⟨x, hx, ?_⟩
      rw [h4, nI_clamp (by omega), Bool.and_eq_true, Nat.ble_eq, Nat.ble_eq]
      omega
    show mK2 B (sK s).1 (sF s) (sK s).2.1 (sD s) (sV s) (sR s) (sQ s) (x + 1 + j) = 0 ∨ ((mK2 B (sK s).1 (sF s) (sK s).2.1 (sD s) (sV s) (sR s) (sQ s) (x + 1 + j) = 1 ∨ mK2 B (sK s).1 (sF s) (sK s).2.1 (sD s) (sV s) (sR s) (sQ s) (x + 1 + j) = 2) ∧ ∃ y, mV2 B (sK s).1 (sF s) (sK s).2.1 (sD s) (sV s) (sR s) (sQ s) (x + 1 + j) = nI y ∧ safe B (mrk B s) y)
    unfold mK2 mV2 loK loV cfK cfV
    rw [hin, Bool.true_and]
    cases hc2 : cutb (mK1 B (sF s) (sD s) (sV s) (sR s) (sQ s)) (mV1 B (sF s) (sD s) (sV s) (sR s) (sQ s)) (mL3 B (sK s).1 (sF s) (sK s).2.1 (sD s) (sV s) (sR s) (sQ s)) (x + 1 + j) with
    | true => exact Or.inl rfl
    | false =>
      rw [cond_false, cond_false]
      have e1 : (inF (sF s) (mL1 B (sF s) (sD s) (sV s) (sR s) (sQ s)) (x + 1 + j) && cutb (sD s) (sV s) (mL1 B (sF s) (sD s) (sV s) (sR s) (sQ s)) (x + 1 + j)) = true → mK1 B (sF s) (sD s) (sV s) (sR s) (sQ s) (x + 1 + j) = nI 0 := by
        intro h; unfold mK1 loK cfK; rw [h, cond_true]
      have e2 : (inF (sF s) (mL1 B (sF s) (sD s) (sV s) (sR s) (sQ s)) (x + 1 + j) && cutb (sD s) (sV s) (mL1 B (sF s) (sD s) (sV s) (sR s) (sQ s)) (x + 1 + j)) = false → mK1 B (sF s) (sD s) (sV s) (sR s) (sQ s) (x + 1 + j) = sD s (x + 1 + j) ∧ mV1 B (sF s) (sD s) (sV s) (sR s) (sQ s) (x + 1 + j) = sV s (x + 1 + j) := by
        intro h; unfold mK1 loK cfK mV1 loV cfV; rw [h, cond_false, cond_false]; exact ⟨rfl, rfl⟩
      cases hc1 : (inF (sF s) (mL1 B (sF s) (sD s) (sV s) (sR s) (sQ s)) (x + 1 + j) && cutb (sD s) (sV s) (mL1 B (sF s) (sD s) (sV s) (sR s) (sQ s)) (x + 1 + j)) with
      | true => exact Or.inl (e1 hc1)
      | false =>
        obtain ⟨ek, ev⟩ := e2 hc1
        rcases h6 j hj with q | ⟨q, y, hy, hg⟩
        · exact Or.inl (ek.trans q)
        · refine Or.inr ⟨by rw [ek]; exact q, y, ev.trans hy, (hs y).mpr ?_⟩
          have hyN := (i2 y hg).1
          rcases q with q | q
          · refine m5 x hx y ?_
            rw [tgs_tgc h4 h3]
            unfold tgc
            refine List.mem_filterMap.mpr ⟨j, List.mem_range'_1.mpr ⟨by omega, by omega⟩, ?_⟩
            rw [if_pos q, hy, nI_clamp (by omega)]
          · unfold cutb at hc2
            rw [ek, ev, q, hy, nI_clamp (by omega)] at hc2
            simpa using hc2
  · rcases i3 i hi with q | ⟨x, hx, hg⟩
    · exact Or.inl q
    · refine Or.inr ⟨x, hx, (hs x).mpr (m6 x (m3 x (insL_mem.mpr (Or.inl (insL_mem.mpr (Or.inr ?_))))))⟩
      refine List.mem_filterMap.mpr ⟨i, List.mem_range'_1.mpr ⟨by omega, by omega⟩, ?_⟩
      have := hg.1
      rw [hx, if_neg (nI_m1 (by omega)), nI_clamp (by omega)]
  · show (sQ s ++ mT B (sK s).1 (sF s) (sK s).2.1 (sD s) (sV s) (sR s) (sQ s)).Nodup
    refine List.nodup_append.mpr ⟨i4.1, (sq_ok i5 _ (16 * B) (by omega)).1, fun x hx y hy e => ?_⟩
    subst e
    exact (sq_mem.mp hy).2.2.2 (m3 x (insL_mem.mpr (Or.inr hx)))
  · rcases List.mem_append.mp hy with h | h
    · exact (hs y).mpr (m6 y (m3 y (insL_mem.mpr (Or.inr h))))
    · exact (hs y).mpr (m7 y h).1
  · show mW B (sF s) (sK s).2.1 (sD s) (sV s) (sR s) (sQ s) w = 0 ∨ mW B (sF s) (sK s).2.1 (sD s) (sV s) (sR s) (sQ s) w = 1
    unfold mW wtQ
    cases hc : (Nat.ble (w + 1) (2 * (16 * B)) && (Nat.beq (w % 2) 0 && (decide ((sK s).2.1 w = 1) && !decide (w ∈ mL1 B (sF s) (sD s) (sV s) (sR s) (sQ s))))) with
    | true => exact Or.inl rfl
    | false => exact i5.1 w hw
  · have h : wtQ (sK s).2.1 (mL1 B (sF s) (sD s) (sV s) (sR s) (sQ s)) (16 * B) w = 1 := h
    unfold wtQ at h
    cases hc : (Nat.ble (w + 1) (2 * (16 * B)) && (Nat.beq (w % 2) 0 && (decide ((sK s).2.1 w = 1) && !decide (w ∈ mL1 B (sF s) (sD s) (sV s) (sR s) (sQ s))))) with
    | true => rw [hc, cond_true] at h; exact absurd h (by decide)
    | false =>
      rw [hc, cond_false] at h
      have hg := i5.2.1 w hw h
      have he := (i2 w hg).2.1
      refine (hs w).mpr (m6 w ?_)
      by_cases q : w ∈ mL1 B (sF s) (sD s) (sV s) (sR s) (sQ s)
      · exact q
      · rw [Bool.eq_false_iff] at hc
        exfalso
        apply hc
        rw [Bool.and_eq_true, Bool.and_eq_true, Bool.and_eq_true, Nat.ble_eq, Nat.beq_eq]
        exact ⟨by omega, he, decide_eq_true h, by simp [q]⟩
  · have key : ∀ z, z < 32 * B → mW B (sF s) (sK s).2.1 (sD s) (sV s) (sR s) (sQ s) z = 1 → (sK s).2.1 z = 1 := by
      intro z hz h
      unfold mW wtQ at h
      cases hc : (Nat.ble (z + 1) (2 * (16 * B)) && (Nat.beq (z % 2) 0 && (decide ((sK s).2.1 z = 1) && !decide (z ∈ mL1 B (sF s) (sD s) (sV s) (sR s) (sQ s))))) with
      | true => rw [hc, cond_true] at h; exact absurd h (by decide)
      | false => rw [hc, cond_false] at h; exact h
    exact i5.2.2 x y hx hy (key x hx h1) (key y hy h2) h3
