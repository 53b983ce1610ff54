/-! weak fields lose what is not marked -/
def cutb (kd vl : Nat → Int32) (L : List Nat) (w : Nat) : Bool := decide (kd w = 2) && !(decide ((vl w).toNatClampNeg ∈ L))
def cfK (kd vl : Nat → Int32) (L : List Nat) (pr : Nat → Bool) : Nat → Int32 := fun w => bif pr w && cutb kd vl L w then nI 0 else kd w
def cfV (kd vl : Nat → Int32) (L : List Nat) (pr : Nat → Bool) : Nat → Int32 := fun w => bif pr w && cutb kd vl L w then nI 0 else vl w
section CF
variable {kd vl : Nat → Int32} {L : List Nat} {pr pr' : Nat → Bool} {w0 : Nat}
theorem cf_un (hk : cfK kd vl L pr w0 = 2) : (pr w0 && cutb kd vl L w0) = false ∧ kd w0 = 2 ∧ cfV kd vl L pr w0 = vl w0 := by
  unfold cfK at hk
  unfold cfV
  cases h : (pr w0 && cutb kd vl L w0) with
  | true => rw [h, cond_true] at hk; exact absurd hk (by decide)
  | false => rw [h, cond_false] at hk; exact ⟨rfl, hk, by rw [cond_false]⟩
theorem cf_cut (h : ∀ w, pr' w = (pr w || Nat.beq w w0)) (hk : cfK kd vl L pr w0 = 2) (hv : (cfV kd vl L pr w0).toNatClampNeg ∉ L) : upd (cfK kd vl L pr) w0 (nI 0) = cfK kd vl L pr' ∧ upd (cfV kd vl L pr) w0 (nI 0) = cfV kd vl L pr' := by
  obtain ⟨h1, h2, h3⟩ := cf_un hk
  rw [h3] at hv
  have hc : cutb kd vl L w0 = true := by simp [cutb, h2, hv]
  have hp : pr' w0 = true := by rw [h w0]; simp
  constructor
  all_goals
    funext w
    by_cases q : w = w0
    · subst q
      rw [upd_s]
      simp [cfK, cfV, hp, hc]
    · rw [upd_n q]
      have : pr' w = pr w := by rw [h w]; simp [q]
      simp [cfK, cfV, this]
theorem cf_keep (h : ∀ w, pr' w = (pr w || Nat.beq w w0)) (hn : ¬ (cfK kd vl L pr w0 = 2 ∧ (cfV kd vl L pr w0).toNatClampNeg ∉ L)) : cfK kd vl L pr = cfK kd vl L pr' ∧ cfV kd vl L pr = cfV kd vl L pr' := by
  have key : (pr w0 && cutb kd vl L w0) = (pr' w0 && cutb kd vl L w0) := by
    have hp : pr' w0 = true := by rw [h w0]; simp
    rw [hp, Bool.true_and]
    cases hc : cutb kd vl L w0 with
    | false => simp
    | true =>
      rw [Bool.and_true]
      cases hpr : pr w0 with
      | true => rfl
      | false =>
        exfalso
        apply hn
        simp only [cutb, Bool.and_eq_true, decide_eq_true_eq, Bool.not_eq_true', decide_eq_false_iff_not] at hc
        exact ⟨by simp [cfK, hpr, hc.1], by simp [cfV, hpr, hc.2]⟩
  constructor
  all_goals
    funext w
    by_cases q : w = w0
    · subst q
      simp only [cfK, cfV, key]
    · have : pr' w = pr w := by rw [h w]; simp [q]
      simp [cfK, cfV, this]
end CF
/-- the words of the fields of a list's objects -/
def inF (fd : Nat → Int32) (L : List Nat) (w : Nat) : Bool := L.any (fun y => Nat.ble (y + 1) w && Nat.ble w (y + (fd y).toNatClampNeg))
def prJ (fd : Nat → Int32) (L : List Nat) (x j : Nat) : Nat → Bool := fun w => inF fd L w || (Nat.ble (x + 1) w && Nat.ble w (x + j))
theorem prJ_s (fd : Nat → Int32) (L : List Nat) (x j w : Nat) : prJ fd L x (j + 1) w = (prJ fd L x j w || Nat.beq w (x + 1 + j)) := by
  unfold prJ
  rw [Bool.or_assoc]
  congr 1
  rw [Bool.eq_iff_iff]
  simp only [Bool.and_eq_true, Bool.or_eq_true, Nat.ble_eq, Nat.beq_eq]
  omega
theorem prJ_0 (fd : Nat → Int32) (L : List Nat) (x : Nat) : prJ fd L x 0 = inF fd L := by
  funext w
  unfold prJ
  have : (Nat.ble (x + 1) w && Nat.ble w (x + 0)) = false := by
    rw [Bool.eq_false_iff]
    simp only [ne_eq, Bool.and_eq_true, Nat.ble_eq]
    omega
  rw [this, Bool.or_false]
theorem prJ_m {fd : Nat → Int32} {L : List Nat} {x m : Nat} (h : fd x = nI m) (hm : m ≤ 15) : prJ fd L x m = inF fd (L ++ [x]) := by
  funext w
  unfold prJ inF
  rw [List.any_append]
  simp [h, nI_clamp (show m < 2 ^ 31 by omega)]
theorem le_eq {x : Int32} {n m : Nat} (e : x = nI n) (h : n ≤ m) (hm : m < 2 ^ 31) : x ≤ nI m := by rw [e]; exact nI_le h hm
section CC
variable {B : Nat} {a : Nat → Nat → Int32} {v : Nat → Int32} {r : xW}
/-- the world with other kinds and values -/
abbrev wKV (B : Nat) (a : Nat → Nat → Int32) (v : Nat → Int32) (r : xW) (kd vl : Nat → Int32) : xW := wC B (setA (setA a 3 kd) 4 vl) v r
theorem c_cut_in (hB : B ≤ 16) {G : Nat → Prop} (hp : hpOK (32 * B) (a 1) (a 3) (a 4) G) {L L1 : List Nat} (hW : Wk (32 * B) L (a 5) (a 6) (v 2)) (hG : Wg B G L) {x m i : Nat} (hx : G x) (hm : a 1 x = nI m) (hm15 : m ≤ 15) {Q : Option Value → xW → Prop}
    (kk : V none 81 Q (0, 0) 97 [(0, .ref 0), (1, .int (nI i))] [] (wKV B a v r (cfK (a 3) (a 4) L (inF (a 1) (L1 ++ [x]))) (cfV (a 3) (a 4) L (inF (a 1) (L1 ++ [x]))))) : ∀ (c j : Nat), j + c = m →
    V none 81 Q (0, 0) 30 [(0, .ref 0), (1, .int (nI i)), (2, .int (nI x)), (3, .int (nI j))] [.int (nI x), .ref 1, .int (nI j)] (wKV B a v r (cfK (a 3) (a 4) L (prJ (a 1) L1 x j)) (cfV (a 3) (a 4) L (prJ (a 1) L1 x j))) := by
  obtain ⟨hxN, -, m', hm', hf', hmN, hj'⟩ := hp x hx
  have e : m' = m := nI_inj (by omega) (by omega) (hf'.symm.trans hm)
  subst e
  have hlen := hG.len hp
  intro c
  induction c with
  | zero =>
    intro j hj
    have e : j = m' := by omega
    subst e
    rw [prJ_m hm hm15]
    refine V.cv rfl (c_fieldsOfE hB hxN (by exact hm)) rfl rfl ?_
    rintro _ _ ⟨rfl, rfl⟩
    refine V.brT rfl rfl (nI_le (Nat.le_refl j) (by omega)) ?_
    exact V.lt 2 rfl kk
  | succ c ih =>
    intro j hj
    have hjN : x + 1 + j < 32 * B := by omega
    have hjm := hj' j (by omega)
    have hpr := prJ_s (a 1) L1 x j
    have ih := ih (j + 1) (by omega)
    by_cases hk : cfK (a 3) (a 4) L (prJ (a 1) L1 x j) (x + 1 + j) = 2
    · obtain ⟨-, hk2, hv2⟩ := cf_un hk
      obtain ⟨y, hy, hyG⟩ : ∃ y, a 4 (x + 1 + j) = nI y ∧ G y := by
        rcases hjm with h0 | ⟨-, h⟩
        · rw [h0] at hk2; exact absurd hk2 (by decide)
        · exact h
      have hyN := (hp y hyG).1
      have hvy : cfV (a 3) (a 4) L (prJ (a 1) L1 x j) (x + 1 + j) = nI y := hv2.trans hy
      refine V.cv rfl (c_fieldsOfE hB hxN (by exact hm)) rfl rfl ?_
      rintro _ _ ⟨rfl, rfl⟩
      refine V.brF rfl rfl (nI_ge (show j < m' by omega) (by omega)) ?_
      refine V.run 20 rfl ?_
      refine V.cv rfl (c_kindOfE hB hjN (by exact hk)) rfl rfl ?_
      rintro _ _ ⟨rfl, rfl⟩
      refine V.run 20 rfl ?_
      refine V.brF rfl rfl (fun h => h rfl) ?_
      refine V.run 20 rfl ?_
      refine V.brF rfl rfl i1_ne0 ?_
      refine V.run 20 rfl ?_
      refine V.cv rfl (c_valueOfE hB hjN (by exact hvy)) rfl rfl ?_
      rintro _ _ ⟨rfl, rfl⟩
      by_cases hyL : y ∈ L
      · obtain ⟨e1, e2⟩ := cf_keep (kd := a 3) (vl := a 4) (L := L) hpr (fun h => h.2 (by rw [hvy, nI_clamp (by omega)]; exact hyL))
        rw [← e1, ← e2] at ih
        refine V.cv rfl (c_whas1 false hB hyN (by exact hW.not (by omega) hyL)) rfl rfl ?_
        rintro _ _ ⟨rfl, rfl⟩
        refine V.brT rfl rfl i1_ne0 ?_
        refine V.run 20 rfl ?_
        rw [nI_add]
        exact V.lt 4 rfl ih
      · obtain ⟨e1, e2⟩ := cf_cut (kd := a 3) (vl := a 4) (L := L) hpr hk (by rw [hvy, nI_clamp (by omega)]; exact hyL)
        rw [← e1, ← e2] at ih
        refine V.cv rfl (c_whas0 false hB hyN (by exact hW.2.2.1 y hyN hyL)) rfl rfl ?_
        rintro _ _ ⟨rfl, rfl⟩
        refine V.brF rfl rfl (fun h => h i0_eq0) ?_
        refine V.run 20 rfl ?_
        refine V.cv rfl (c_write hB hjN) rfl rfl ?_
        rintro _ _ ⟨rfl, rfl⟩
        refine V.run 20 rfl ?_
        rw [nI_add]
        exact V.lt 4 rfl ih
    · obtain ⟨e1, e2⟩ := cf_keep (kd := a 3) (vl := a 4) (L := L) hpr (fun h => hk h.1)
      rw [← e1, ← e2] at ih
      refine V.cv rfl (c_fieldsOfE hB hxN (by exact hm)) rfl rfl ?_
      rintro _ _ ⟨rfl, rfl⟩
      refine V.brF rfl rfl (nI_ge (show j < m' by omega) (by omega)) ?_
      refine V.run 20 rfl ?_
      refine V.cv rfl (c_kindOf hB hjN) rfl rfl ?_
      rintro _ _ ⟨rfl, rfl⟩
      refine V.run 20 rfl ?_
      refine V.brT rfl rfl hk ?_
      refine V.run 20 rfl ?_
      refine V.brT rfl rfl i0_eq0 ?_
      refine V.run 20 rfl ?_
      rw [nI_add]
      exact V.lt 4 rfl ih
/-- kinds and values behind the cutting -/
def loK (fd kd vl : Nat → Int32) (L : List Nat) : Nat → Int32 := cfK kd vl L (inF fd L)
def loV (fd kd vl : Nat → Int32) (L : List Nat) : Nat → Int32 := cfV kd vl L (inF fd L)
theorem cf_nil (kd vl : Nat → Int32) (L : List Nat) (fd : Nat → Int32) : cfK kd vl L (inF fd []) = kd ∧ cfV kd vl L (inF fd []) = vl := by
  constructor <;> funext w <;> simp [cfK, cfV, inF]
theorem c_cutWeakFields (hB : B ≤ 16) {G : Nat → Prop} (hp : hpOK (32 * B) (a 1) (a 3) (a 4) G) {L : List Nat} (hW : Wk (32 * B) L (a 5) (a 6) (v 2)) (hG : Wg B G L) :
    Tot none kX4_cutWeakFields [.ref 0] (wC B a v r) (rN (wKV B a v r (loK (a 1) (a 3) (a 4) L) (loV (a 1) (a 3) (a 4) L))) := by
  have hlen := hG.len hp
  have loop : ∀ (c i : Nat), i + c = L.length → V none 81 (rN (wKV B a v r (loK (a 1) (a 3) (a 4) L) (loV (a 1) (a 3) (a 4) L))) (0, 0) 7 [(0, .ref 0), (1, .int (nI i))] [.ref 7, .int (nI i)] (wKV B a v r (cfK (a 3) (a 4) L (inF (a 1) (L.take i))) (cfV (a 3) (a 4) L (inF (a 1) (L.take i)))) := by
    intro c
    induction c with
    | zero =>
      intro i hi
      rw [List.take_of_length_le (by omega)]
      refine V.cv rfl (c_wsize false) rfl rfl ?_
      rintro _ _ ⟨rfl, rfl⟩
      refine V.brT rfl rfl (le_eq hW.1 (by omega) (by omega)) ?_
      exact V.rv rfl ⟨rfl, rfl⟩
    | succ c ih =>
      intro i hi
      have hlt : i < L.length := by omega
      obtain ⟨x, hx⟩ : ∃ x, L[i]? = some x := ⟨_, List.getElem?_eq_getElem hlt⟩
      have hfx := (hW.2.1 i x hx).1
      have hxG := hG.2 x (List.mem_of_getElem? hx)
      obtain ⟨hxN, -, q, hq15, hfq, -, -⟩ := hp x hxG
      have et : L.take (i + 1) = L.take i ++ [x] := by rw [List.take_add_one, hx]; rfl
      have ih := ih (i + 1) (by omega)
      rw [et] at ih
      refine V.cv rfl (c_wsize false) rfl rfl ?_
      rintro _ _ ⟨rfl, rfl⟩
      refine V.brF rfl rfl (fun h => nI_ge hlt (by omega) (hW.1 ▸ h)) ?_
      refine V.run 20 rfl ?_
      refine V.cv rfl (c_wgetE false hB (by exact hW.1) hlt hlen (by exact hfx)) rfl rfl ?_
      rintro _ _ ⟨rfl, rfl⟩
      refine V.run 20 rfl ?_
      have h := c_cut_in (r := r) (L1 := L.take i) (i := i) hB hp hW hG hxG hfq hq15 (Q := rN (wKV B a v r (loK (a 1) (a 3) (a 4) L) (loV (a 1) (a 3) (a 4) L))) (by
        refine V.run 20 rfl ?_
        rw [nI_add]
        exact ih) q 0 (by omega)
      rw [prJ_0] at h
      exact h
  refine eX4_cutWeakFields ?_
  refine V.run 20 rfl ?_
  have h := loop L.length 0 (by omega)
  rw [List.take_zero, (cf_nil (a 3) (a 4) L (a 1)).1, (cf_nil (a 3) (a 4) L (a 1)).2] at h
  exact h
end CC
