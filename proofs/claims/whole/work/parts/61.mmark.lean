theorem fol_skip {T : Nat → List Nat} {L : List Nat} {i : Nat} (hi : i ≤ L.length) (hc : ∀ k x, k < i → L[k]? = some x → ∀ y ∈ T x, y ∈ L) (n : Nat) : ∀ (d j : Nat), j + d = i → fol T (d + n) j L = fol T n i L
  | 0, j, h => by rw [Nat.zero_add, show j = i by omega]
  | d + 1, j, h => by
    rw [show d + 1 + n = (d + n) + 1 by omega, fol, if_pos (by omega)]
    have hx : L[j]? = some (L.getD j 0) := by
      rw [List.getD_eq_getElem?_getD, List.getElem?_eq_getElem (show j < L.length by omega)]
      rfl
    rw [insL_id (hc j _ (by omega) hx)]
    exact fol_skip hi hc n d (j + 1) (by omega)
section MC
variable {c : Nat → xC} {B : Nat} {a : Nat → Nat → Int32} {v : Nat → Int32}
abbrev wMKV (c : Nat → xC) (B : Nat) (a : Nat → Nat → Int32) (v : Nat → Int32) (kd vl : Nat → Int32) : xW := wM c B (setA (setA a 6 kd) 7 vl) v
theorem m_loos_in (hB : B ≤ 16) {G : Nat → Prop} (hp : hpOK (32 * B) (a 3) (a 6) (a 7) G) {L L1 : List Nat} (hW : Wk (32 * B) L (a 10) (a 11) (v 5)) (hG : Wg B G L) {x m i : Nat} (hxi : L[i]? = some x) (hm : a 3 x = nI m) (hm15 : m ≤ 15) {Q : Option Value → xW → Prop}
    (kk : V none 93 Q (0, 0) 86 [(0, .ref 19), (1, .int (nI i))] [] (wMKV c B a v (cfK (a 6) (a 7) L (inF (a 3) (L1 ++ [x]))) (cfV (a 6) (a 7) L (inF (a 3) (L1 ++ [x]))))) : ∀ (q j : Nat), j + q = m →
    V none 93 Q (0, 0) 25 [(0, .ref 19), (1, .int (nI i)), (2, .int (nI (x + 1 + j)))] [.int (nI i), .ref 30, .int (nI (x + 1 + j))] (wMKV c B a v (cfK (a 6) (a 7) L (prJ (a 3) L1 x j)) (cfV (a 6) (a 7) L (prJ (a 3) L1 x j))) := by
  have hx := hG.2 x (List.mem_of_getElem? hxi)
  obtain ⟨hxN, -, m', hm', hf', hmN, hj'⟩ := hp x hx
  have e : m' = m := nI_inj (by omega) (by omega) (hf'.symm.trans hm)
  subst e
  have hlen := hG.len hp
  have hil := (List.getElem?_eq_some_iff.mp hxi).1
  have hfx := (hW.2.1 i x hxi).1
  intro q
  induction q with
  | zero =>
    intro j hj
    have e : j = m' := by omega
    subst e
    rw [prJ_m hm hm15]
    refine V.ialE rfl rfl rfl (show i < 512 by omega) (by omega) hfx ?_
    refine V.run 20 rfl ?_
    refine V.ialE rfl rfl rfl (show i < 512 by omega) (by omega) hfx ?_
    refine V.ialE rfl rfl rfl (show x < 512 by omega) (by omega) hm ?_
    refine V.run 20 rfl ?_
    rw [nI_add]
    refine V.brT rfl rfl (nI_lt (by omega) (by omega)) ?_
    exact V.lt 2 rfl kk
  | succ q ih =>
    intro j hj
    have hjN : x + 1 + j < 32 * B := by omega
    have hjm := hj' j (by omega)
    have hpr := prJ_s (a 3) L1 x j
    have ih := ih (j + 1) (by omega)
    refine V.ialE rfl rfl rfl (show i < 512 by omega) (by omega) hfx ?_
    refine V.run 20 rfl ?_
    refine V.ialE rfl rfl rfl (show i < 512 by omega) (by omega) hfx ?_
    refine V.ialE rfl rfl rfl (show x < 512 by omega) (by omega) hm ?_
    refine V.run 20 rfl ?_
    rw [nI_add]
    refine V.brF rfl rfl (nI_nlt (by omega) (by omega)) ?_
    refine V.run 20 rfl ?_
    refine V.iald rfl rfl rfl (show x + 1 + j < 512 by omega) (by omega) ?_
    refine V.run 20 rfl ?_
    by_cases hk : cfK (a 6) (a 7) L (prJ (a 3) L1 x j) (x + 1 + j) = 2
    · obtain ⟨-, hk2, hv2⟩ := cf_un hk
      obtain ⟨y, hy, hyG⟩ : ∃ y, a 7 (x + 1 + j) = nI y ∧ G y := by
        rcases hjm with h0 | ⟨-, h⟩
        · rw [h0] at hk2; exact absurd hk2 (by decide)
        · exact h
      have hyN := (hp y hyG).1
      have hvy : cfV (a 6) (a 7) L (prJ (a 3) L1 x j) (x + 1 + j) = nI y := hv2.trans hy
      refine V.brF rfl rfl (fun h => h hk) ?_
      refine V.run 20 rfl ?_
      refine V.ialE rfl rfl rfl (show x + 1 + j < 512 by omega) (by omega) hvy ?_
      by_cases hyL : y ∈ L
      · obtain ⟨e1, e2⟩ := cf_keep (kd := a 6) (vl := a 7) (L := L) hpr (fun h => h.2 (by rw [hvy, nI_clamp (by omega)]; exact hyL))
        rw [← e1, ← e2] at ih
        refine V.iald rfl rfl rfl (show y < 512 by omega) (by omega) ?_
        refine V.run 20 rfl ?_
        refine V.brT rfl rfl (hW.not (by omega) hyL) ?_
        refine V.run 20 rfl ?_
        rw [nI_add]
        exact ih
      · obtain ⟨e1, e2⟩ := cf_cut (kd := a 6) (vl := a 7) (L := L) hpr hk (by rw [hvy, nI_clamp (by omega)]; exact hyL)
        rw [← e1, ← e2] at ih
        refine V.ialE rfl rfl rfl (show y < 512 by omega) (by omega) (hW.2.2.1 y hyN hyL) ?_
        refine V.run 20 rfl ?_
        refine V.brF rfl rfl (fun h => h rfl) ?_
        refine V.run 20 rfl ?_
        refine V.iast rfl rfl rfl (show x + 1 + j < 512 by omega) (by omega) rfl ?_
        refine V.run 20 rfl ?_
        refine V.iast rfl rfl rfl (show x + 1 + j < 512 by omega) (by omega) rfl ?_
        refine V.run 20 rfl ?_
        rw [nI_add]
        exact ih
    · obtain ⟨e1, e2⟩ := cf_keep (kd := a 6) (vl := a 7) (L := L) hpr (fun h => hk h.1)
      rw [← e1, ← e2] at ih
      refine V.brT rfl rfl hk ?_
      refine V.run 20 rfl ?_
      rw [nI_add]
      exact ih
theorem m_loosen (hB : B ≤ 16) {G : Nat → Prop} (hp : hpOK (32 * B) (a 3) (a 6) (a 7) G) {L : List Nat} (hW : Wk (32 * B) L (a 10) (a 11) (v 5)) (hG : Wg B G L) :
    Tot none kX5_loosen [.ref 19] (wM c B a v) (rN (wMKV c B a v (loK (a 3) (a 6) (a 7) L) (loV (a 3) (a 6) (a 7) L))) := by
  have hlen := hG.len hp
  have loop : ∀ (q i : Nat), i + q = L.length → V none 93 (rN (wMKV c B a v (loK (a 3) (a 6) (a 7) L) (loV (a 3) (a 6) (a 7) L))) (0, 0) 7 [(0, .ref 19), (1, .int (nI i))] [.int (v 5), .int (nI i)] (wMKV c B a v (cfK (a 6) (a 7) L (inF (a 3) (L.take i))) (cfV (a 6) (a 7) L (inF (a 3) (L.take i)))) := by
    intro q
    induction q with
    | zero =>
      intro i hi
      rw [List.take_of_length_le (by omega)]
      refine V.brT rfl rfl (le_eq hW.1 (by omega) (by omega)) ?_
      exact V.rv rfl ⟨rfl, rfl⟩
    | succ q ih =>
      intro i hi
      have hlt : i < L.length := by omega
      obtain ⟨x, hx⟩ : ∃ x, L[i]? = some x := ⟨_, List.getElem?_eq_getElem hlt⟩
      have hfx := (hW.2.1 i x hx).1
      have hxG := hG.2 x (List.mem_of_getElem? hx)
      obtain ⟨hxN, -, m, hq15, hfq, -, -⟩ := hp x hxG
      have et : L.take (i + 1) = L.take i ++ [x] := by rw [List.take_add_one, hx]; rfl
      have ih := ih (i + 1) (by omega)
      rw [et] at ih
      refine V.brF rfl rfl (fun h => nI_ge hlt (by omega) (hW.1 ▸ h)) ?_
      refine V.run 20 rfl ?_
      refine V.ialE rfl rfl rfl (show i < 512 by omega) (by omega) hfx ?_
      refine V.run 20 rfl ?_
      rw [nI_add]
      have h := m_loos_in (c := c) (L1 := L.take i) (i := i) hB hp hW hG hx hfq hq15 (Q := rN (wMKV c B a v (loK (a 3) (a 6) (a 7) L) (loV (a 3) (a 6) (a 7) L))) (by
        refine V.run 20 rfl ?_
        rw [nI_add]
        exact ih) m 0 (by omega)
      rw [prJ_0] at h
      exact h
  refine eX5_loosen ?_
  refine V.run 20 rfl ?_
  have h := loop L.length 0 (by omega)
  rw [List.take_zero, (cf_nil (a 6) (a 7) L (a 3)).1, (cf_nil (a 6) (a 7) L (a 3)).2] at h
  exact h
end MC
