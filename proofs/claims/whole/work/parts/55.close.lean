theorem fol_closed {B : Nat} {fd kd vl : Nat → Int32} {G : Nat → Prop} (hp : hpOK (32 * B) fd kd vl G) (hN : 32 * B < 2 ^ 31) : ∀ (n i : Nat) (L : List Nat), 16 * B + 1 ≤ i + n → i ≤ L.length → Wg B G L → (∀ k x, k < i → L[k]? = some x → ∀ y ∈ tgs fd kd vl x, y ∈ L) →
    Wg B G (fol (tgs fd kd vl) n i L) ∧ ∀ x ∈ fol (tgs fd kd vl) n i L, ∀ y ∈ tgs fd kd vl x, y ∈ fol (tgs fd kd vl) n i L
  | 0, i, L, h1, h2, h3, _ => by
    have := h3.len hp
    omega
  | n + 1, i, L, h1, h2, h3, h4 => by
    unfold fol
    split
    · rename_i hlt
      obtain ⟨x, hx⟩ : ∃ x, L[i]? = some x := ⟨_, List.getElem?_eq_getElem hlt⟩
      have hxG := h3.2 x (List.mem_of_getElem? hx)
      have eg : L.getD i 0 = x := by rw [List.getD_eq_getElem?_getD, hx]; rfl
      rw [eg]
      obtain ⟨M, hM⟩ := insL_pre (tgs fd kd vl x) L
      refine fol_closed hp hN n (i + 1) _ (by omega) (by rw [hM, List.length_append]; omega) ⟨insL_nodup h3.1, insL_all h3.2 (fun y hy => tgs_G hp hN hxG hy)⟩ (fun k z hk hz y hy => ?_)
      by_cases q : k = i
      · subst q
        rw [hM, List.getElem?_append_left hlt, hx] at hz
        cases hz
        exact insL_mem.mpr (Or.inr hy)
      · rw [hM, List.getElem?_append_left (by omega)] at hz
        exact insL_mem.mpr (Or.inl (h4 k z (by omega) hz y hy))
    · refine ⟨h3, fun x hx y hy => ?_⟩
      obtain ⟨k, hk⟩ := List.getElem?_of_mem hx
      have := (List.getElem?_eq_some_iff.mp hk).1
      exact h4 k x (by omega) hk y hy
theorem tgs_lo (fd kd vl : Nat → Int32) (L : List Nat) (x : Nat) : tgs fd (loK fd kd vl L) (loV fd kd vl L) x = tgs fd kd vl x := by
  unfold tgs
  refine fm_congr (fun j _ => ?_)
  unfold loK loV cfK cfV
  cases hc : (inF fd L (x + 1 + j) && cutb kd vl L (x + 1 + j)) with
  | false => rfl
  | true =>
    have h2 : kd (x + 1 + j) = 2 := by
      have := (Bool.and_eq_true _ _).mp hc
      simp only [cutb, Bool.and_eq_true, decide_eq_true_eq] at this
      exact this.2.1
    rw [cond_true, cond_true, if_neg (show ¬ nI 0 = 1 by decide), if_neg (show ¬ kd (x + 1 + j) = 1 by rw [h2]; decide)]
theorem held_G {B : Nat} {fd kd vl rt : Nat → Int32} {G : Nat → Prop} (hp : hpOK (32 * B) fd kd vl G) (hN : 32 * B < 2 ^ 31) {Qs : List Nat} (hr : rtOK rt G) (hq : ∀ y ∈ Qs, G y) : Wg B G (heldL rt Qs) := by
  refine ⟨insL_nodup (insL_nodup List.nodup_nil), insL_all (insL_all (fun y hy => by simp at hy) (fun y hy => ?_)) hq⟩
  obtain ⟨i, hi, he⟩ := List.mem_filterMap.mp hy
  have := (List.mem_range'_1.mp hi).2
  rcases hr i (by omega) with h0 | ⟨x, hx, hg⟩
  · rw [if_pos h0] at he; cases he
  · rw [hx, if_neg (nI_m1 (by have := (hp x hg).1; omega)), nI_clamp (by have := (hp x hg).1; omega)] at he
    cases he; exact hg
/-- what marking comes to -/
theorem mrk_facts {B : Nat} (hB : B ≤ 16) {nm fd wt kd vl rt : Nat → Int32} {G : Nat → Prop} {Qs : List Nat} (hp : hpOK (32 * B) fd kd vl G) (hr : rtOK rt G) (hq : ∀ y ∈ Qs, G y) (hw : wtOK (32 * B) nm wt G) :
    Wg B G (mL1 B fd kd vl rt Qs) ∧ (∀ x ∈ mL1 B fd kd vl rt Qs, ∀ y ∈ tgs fd kd vl x, y ∈ mL1 B fd kd vl rt Qs) ∧ (∀ y ∈ heldL rt Qs, y ∈ mL1 B fd kd vl rt Qs) ∧
    Wg B G (mL3 B nm fd wt kd vl rt Qs) ∧ (∀ x ∈ mL3 B nm fd wt kd vl rt Qs, ∀ y ∈ tgs fd kd vl x, y ∈ mL3 B nm fd wt kd vl rt Qs) ∧ (∀ y ∈ mL1 B fd kd vl rt Qs, y ∈ mL3 B nm fd wt kd vl rt Qs) ∧ (∀ y ∈ mT B nm fd wt kd vl rt Qs, y ∈ mL3 B nm fd wt kd vl rt Qs ∧ G y) := by
  have hN : 32 * B < 2 ^ 31 := by omega
  have hh := held_G hp hN hr hq
  have c1 := fol_closed hp hN (16 * B + 1) 0 (heldL rt Qs) (by omega) (Nat.zero_le _) hh (fun k x hk => absurd hk (Nat.not_lt_zero k))
  have c1' : Wg B G (mL1 B fd kd vl rt Qs) ∧ ∀ x ∈ mL1 B fd kd vl rt Qs, ∀ y ∈ tgs fd kd vl x, y ∈ mL1 B fd kd vl rt Qs := c1
  have hT : ∀ y ∈ mT B nm fd wt kd vl rt Qs, G y := by
    intro y hy
    have := sq_mem.mp hy
    exact hw.2.1 y (by omega) this.2.2.1
  have p1 : hpOK (32 * B) fd (mK1 B fd kd vl rt Qs) (mV1 B fd kd vl rt Qs) G := hpOK_lo hp _
  have et : ∀ x, tgs fd (mK1 B fd kd vl rt Qs) (mV1 B fd kd vl rt Qs) x = tgs fd kd vl x := fun x => tgs_lo fd kd vl _ x
  obtain ⟨M, hM⟩ := insL_pre (mT B nm fd wt kd vl rt Qs) (mL1 B fd kd vl rt Qs)
  have l1 := c1'.1.len hp
  have c3 := fol_closed p1 hN (16 * B + 1 - (mL1 B fd kd vl rt Qs).length) (mL1 B fd kd vl rt Qs).length (insL (mL1 B fd kd vl rt Qs) (mT B nm fd wt kd vl rt Qs)) (by omega) (by rw [hM, List.length_append]; omega) ⟨insL_nodup c1'.1.1, insL_all c1'.1.2 hT⟩ (fun k x hk hx y hy => by
    rw [hM, List.getElem?_append_left hk] at hx
    rw [et] at hy
    exact insL_mem.mpr (Or.inl (c1'.2 x (List.mem_of_getElem? hx) y hy)))
  have c3' : Wg B G (mL3 B nm fd wt kd vl rt Qs) ∧ ∀ x ∈ mL3 B nm fd wt kd vl rt Qs, ∀ y ∈ tgs fd (mK1 B fd kd vl rt Qs) (mV1 B fd kd vl rt Qs) x, y ∈ mL3 B nm fd wt kd vl rt Qs := c3
  refine ⟨c1'.1, c1'.2, fun y hy => fol_sub hy, c3'.1, fun x hx y hy => c3'.2 x hx y (by rw [et]; exact hy), fun y hy => fol_sub (insL_mem.mpr (Or.inl hy)), fun y hy => ⟨fol_sub (insL_mem.mpr (Or.inr hy)), hT y hy⟩⟩
section CSU
variable {B : Nat} {a : Nat → Nat → Int32} {v : Nat → Int32} {r : xW}
theorem sTm_congr {N : Nat} {kd vl kd' vl' : Nat → Int32} (h1 : ∀ w, w < N → kd w = kd' w) (h2 : ∀ w, w < N → vl w = vl' w) (L : List Nat) {w : Nat} (hw : w < N) : sTm kd vl L w = sTm kd' vl' L w := by
  unfold sTm
  rw [h1 w hw, h2 w hw]
theorem sFl_congr {t t' : Nat → Int64} {z : Int64} : ∀ {m : Nat}, (∀ j, j < m → t j = t' j) → sFl t z m = sFl t' z m
  | 0, _ => rfl
  | m + 1, h => by
    unfold sFl
    rw [sFl_congr (fun j hj => h j (by omega)), h m (by omega)]
theorem sOb_congr {N : Nat} {G : Nat → Prop} {fd kd vl fd' kd' vl' : Nat → Int32} (hp : hpOK N fd kd vl G) (h : agr N G fd kd vl fd' kd' vl') (L : List Nat) {x : Nat} (hx : G x) (z : Int64) : sOb fd kd vl L x z = sOb fd' kd' vl' L x z := by
  obtain ⟨-, -, m, hm, hf, hmN, -⟩ := hp x hx
  unfold sOb
  rw [← h.1 x hx, hf, nI_clamp (by omega)]
  exact sFl_congr (fun j hj => sTm_congr h.2.1 h.2.2 L (by omega))
theorem sAll_congr {N : Nat} {G : Nat → Prop} {fd kd vl fd' kd' vl' : Nat → Int32} (hp : hpOK N fd kd vl G) (h : agr N G fd kd vl fd' kd' vl') {L : List Nat} (hL : ∀ x ∈ L, G x) : ∀ i, i ≤ L.length → sAll fd kd vl L i = sAll fd' kd' vl' L i
  | 0, _ => rfl
  | i + 1, hi => by
    unfold sAll
    rw [sAll_congr hp h hL i (by omega)]
    have hx : G (L.getD i 0) := by
      rw [List.getD_eq_getElem?_getD, List.getElem?_eq_getElem (show i < L.length by omega)]
      exact hL _ (List.getElem_mem _)
    rw [sOb_congr hp h L hx]
theorem c_sum (hB : B ≤ 16) {n : Nat} {s : AS} (hI : Inv B n s) (hr : RepC B a v s) (root : Int32) : Tot none kX4_sum [.ref 0, .int root] (wC B a v r) (fun o w' => o = some (.long (opSum B s root)) ∧ ∃ a' v', w' = wC B a' v' r ∧ RepC B a' v' s) := by
  have hp := hpC hI hr
  obtain ⟨h1, h2, h3, h4, h5, h6, h7, h8, h9⟩ := id hr
  refine eX4_sum ?_
  refine V.run 20 rfl ?_
  unfold opSum
  rcases ixN_or (n := 16) (by omega) root with ⟨hbad, e⟩ | ⟨i, hi, rfl, e⟩
  · rw [e]
    refine V.cs rfl (c_isRoot0 hbad) rfl ?_
    rintro _ _ ⟨rfl, rfl⟩
    refine V.brF rfl rfl (fun h => h i0_eq0) ?_
    refine V.run 20 rfl ?_
    exact V.rl rfl ⟨rfl, a, v, rfl, hr⟩
  · rw [e]
    dsimp only
    refine V.cs rfl (c_isRoot1 hi) rfl ?_
    rintro _ _ ⟨rfl, rfl⟩
    refine V.brT rfl rfl i1_ne0 ?_
    refine V.run 20 rfl ?_
    refine V.ialE rfl rfl rfl hi (by omega) (h5 i hi) ?_
    refine V.run 20 rfl ?_
    rcases hI.2.2.1 i hi with h0 | ⟨x, hx, hs⟩
    · refine V.brF rfl rfl (fun h => h h0) ?_
      refine V.run 20 rfl ?_
      exact V.rl rfl ⟨by rw [if_pos h0]; rfl, a, v, rfl, hr⟩
    · have hxN := hs.1
      have hag : agr (32 * B) (safe B s) (a 1) (a 3) (a 4) (sF s) (sD s) (sV s) := ⟨fun x hx => h2 x hx.1 hx.2.1, h3, h4⟩
      have hN : 32 * B < 2 ^ 31 := by omega
      have hW0 : Wg B (safe B s) [x] := ⟨by simp, fun y hy => by simp at hy; rw [hy]; exact hs⟩
      have fc := fol_closed hp hN (16 * B + 1) 0 [x] (by omega) (Nat.zero_le _) hW0 (fun k x hk => absurd hk (Nat.not_lt_zero k))
      have fg := fol_congr (fun x hx => tgs_congr hp hN hag hx) (fun x y hx hy => tgs_G hp hN hx hy) (16 * B + 1) 0 [x] hW0.2
      rw [hx, if_neg (nI_m1 (by omega)), nI_clamp (by omega), ← fg.1]
      generalize hLL : fol (tgs (a 1) (a 3) (a 4)) (16 * B + 1) 0 [x] = LL at fc fg
      rw [← sAll_congr hp hag fc.1.2 LL.length (Nat.le_refl _)]
      have hlen := fc.1.len hp
      refine V.brT rfl rfl (nI_m1 (by omega)) ?_
      refine V.run 20 rfl ?_
      refine V.cv rfl (c_clear true hB) rfl rfl ?_
      rintro _ _ ⟨rfl, g0, rfl, hg0⟩
      refine V.run 20 rfl ?_
      refine V.ialE rfl rfl rfl hi (by omega) ((h5 i hi).trans hx) ?_
      refine V.cv rfl (c_come true hB (L := []) hxN (Wk.nil hg0) (by simp) (Or.inr (by simp; omega))) rfl rfl ?_
      rintro _ _ ⟨rfl, f1, g1, n1, rfl, hW1⟩
      refine V.run 20 rfl ?_
      refine V.cv rfl (c_spread true hB (G := safe B s) (L := [x]) (i := 0) (by exact hp) (by exact hW1) hW0 rfl (Nat.zero_le _)) rfl rfl ?_
      rintro _ _ ⟨rfl, f2, g2, n2, rfl, hW2, hG2⟩
      have hW2 : Wk (32 * B) LL f2 g2 n2 := hLL ▸ hW2
      refine V.run 20 rfl ?_
      have loop : ∀ (c k : Nat), k + c = LL.length → V none 68 (fun o w' => o = some (.long (sAll (a 1) (a 3) (a 4) LL LL.length)) ∧ ∃ a' v', w' = wC B a' v' r ∧ RepC B a' v' s) (0, 0) 67 [(0, .ref 0), (1, .int (nI i)), (2, .long (sAll (a 1) (a 3) (a 4) LL k)), (4, .int (nI k))] [.ref 10, .int (nI k)] (wC B (setA (setA a 7 f2) 8 g2) (uV (uV v 4 n2) 5 n2) r) := by
        intro c
        induction c with
        | zero =>
          intro k hk
          have ek : k = LL.length := by omega
          subst ek
          refine V.cv rfl (c_wsize true) rfl rfl ?_
          rintro _ _ ⟨rfl, rfl⟩
          refine V.brT rfl rfl (le_eq hW2.1 (Nat.le_refl _) (by omega)) ?_
          refine V.run 20 rfl ?_
          exact V.rl rfl ⟨rfl, _, _, rfl, h1, h2, h3, h4, h5, h6, h7, h8, h9⟩
        | succ c ih =>
          intro k hk
          have ih := ih (k + 1) (by omega)
          have hkl : k < LL.length := by omega
          obtain ⟨y, hy⟩ : ∃ y, LL[k]? = some y := ⟨_, List.getElem?_eq_getElem hkl⟩
          have hyL := List.mem_of_getElem? hy
          have eg : LL.getD k 0 = y := by rw [List.getD_eq_getElem?_getD, hy]; rfl
          have es : sAll (a 1) (a 3) (a 4) LL (k + 1) = sOb (a 1) (a 3) (a 4) LL y (sAll (a 1) (a 3) (a 4) LL k) := by rw [sAll, eg]
          rw [es] at ih
          refine V.cv rfl (c_wsize true) rfl rfl ?_
          rintro _ _ ⟨rfl, rfl⟩
          refine V.brF rfl rfl (fun h => nI_ge hkl (by omega) (hW2.1 ▸ h)) ?_
          refine V.run 20 rfl ?_
          refine V.cv rfl (c_wgetE true hB (by exact hW2.1) hkl hlen (by exact (hW2.2.1 k y hy).1)) rfl rfl ?_
          rintro _ _ ⟨rfl, rfl⟩
          refine V.cv rfl (c_addObject hB (G := safe B s) (L := LL) (by exact hp) (by exact hW2) fc.1 (fc.1.2 y hyL) (by exact fc.2 y hyL) _) rfl rfl ?_
          rintro _ _ ⟨rfl, rfl⟩
          refine V.run 20 rfl ?_
          rw [nI_add]
          exact ih
      exact loop LL.length 0 (by omega)
end CSU
