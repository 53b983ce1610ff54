section VTF
variable {X : Option (Nat × (Nat → Int32))} {k : Nat} {Q : Option Value → xW → Prop} {n : Nat × Nat} {pc nx a b : Nat} {ls : xL} {st : List Value} {w : xW} {ins : Instr}
theorem V.brT {P : Prop} {r : List Value} (hd : xm_i k pc = some (ins, nx, a, b)) (hs : x_br ins st = some (P, r)) (hP : P) (kt : V X k Q n a ls r w) : V X k Q n pc ls st w := V.br hd hs (fun _ => kt) (fun h => absurd hP h)
theorem V.brF {P : Prop} {r : List Value} (hd : xm_i k pc = some (ins, nx, a, b)) (hs : x_br ins st = some (P, r)) (hP : ¬ P) (kf : V X k Q n nx ls r w) : V X k Q n pc ls st w := V.br hd hs (fun h => absurd h hP) (fun _ => kf)
theorem V.ialE {o m j : Nat} {f : Nat → Int32} {i y : Int32} (hd : xm_i k pc = some (.iaload, nx, a, b)) (hw : w[o]? = some (.inl (false, m, f))) (hi : i = nI j) (hj : j < m) (hm : m < 2 ^ 31) (hy : f j = y) (kk : V X k Q n nx ls (.int y :: st) w) : V X k Q n pc ls (.int i :: .ref o :: st) w := V.iald hd hw hi hj hm (by rw [hy]; exact kk)
theorem V.zalE {o m j : Nat} {f : Nat → Int32} {i y : Int32} (hd : xm_i k pc = some (.baload, nx, a, b)) (hw : w[o]? = some (.inl (true, m, f))) (hi : i = nI j) (hj : j < m) (hm : m < 2 ^ 31) (hy : f j = y) (kk : V X k Q n nx ls (.int y :: st) w) : V X k Q n pc ls (.int i :: .ref o :: st) w := V.zald hd hw hi hj hm (by rw [hy]; exact kk)
end VTF
abbrev rI (x : Int32) (w : xW) : Option Value → xW → Prop := fun o w' => o = some (.int x) ∧ w' = w
abbrev rJ (x : Int64) (w : xW) : Option Value → xW → Prop := fun o w' => o = some (.long x) ∧ w' = w
abbrev rN (w : xW) : Option Value → xW → Prop := fun o w' => o = none ∧ w' = w
theorem m1_toInt : (-1 : Int32).toInt = -1 := by decide
theorem nI_m1 {n : Nat} (h : n < 2 ^ 31) : ¬ nI n = -1 := by
  intro e
  have e2 := congrArg Int32.toInt e
  rw [nI_toInt h, m1_toInt] at e2
  omega
theorem m1_nI {n : Nat} (h : n < 2 ^ 31) : ¬ (-1 : Int32) = nI n := fun e => nI_m1 h e.symm
theorem m1_lt0 : (-1 : Int32) < 0 := by decide
theorem nI_inj {a b : Nat} (ha : a < 2 ^ 31) (hb : b < 2 ^ 31) (h : nI a = nI b) : a = b := (nI_eq ha hb).mp h
theorem nI_ne {a b : Nat} (ha : a < 2 ^ 31) (hb : b < 2 ^ 31) (h : a ≠ b) : ¬ nI a = nI b := fun e => h (nI_inj ha hb e)
theorem i1_ne0 : ¬ nI 1 = 0 := by decide
theorem i0_eq0 : nI 0 = 0 := rfl
/-- cells of a class: how many words, how many to a block -/
def cwd (c : Nat) : Nat := 2 * 2 ^ c
def cpb (c : Nat) : Nat := 16 / 2 ^ c
theorem cw_i : ∀ c, c < 4 → nI 2 <<< (nI c &&& 31) = nI (cwd c) := by decide
theorem cp_i : ∀ c, c < 4 → nI 16 >>> (nI c &&& 31) = nI (cpb c) := by decide
theorem cpw : ∀ c, c < 4 → cpb c * cwd c = 32 := by decide
theorem cwd_pos (c : Nat) : 2 ≤ cwd c := by
  unfold cwd
  have : 0 < 2 ^ c := Nat.pow_pos (by omega)
  omega
theorem cwd_le : ∀ c, c < 4 → cwd c ≤ 16 := by decide
theorem cpb_le : ∀ c, c < 4 → cpb c ≤ 16 := by decide
theorem cpb_pos : ∀ c, c < 4 → 1 ≤ cpb c := by decide
theorem cw_in {c i : Nat} (hc : c < 4) (hi : i < cpb c) : i * cwd c + cwd c ≤ 32 := by
  have h := cpw c hc
  have h2 : (i + 1) * cwd c ≤ cpb c * cwd c := Nat.mul_le_mul_right _ hi
  rw [h, Nat.add_mul, Nat.one_mul] at h2
  exact h2
/-- how many of the numbers below n -/
def cn (p : Nat → Bool) : Nat → Nat
  | 0 => 0
  | n + 1 => cn p n + bif p n then 1 else 0
theorem cn_le (p : Nat → Bool) : ∀ n, cn p n ≤ n
  | 0 => Nat.le_refl _
  | n + 1 => by
    have := cn_le p n
    unfold cn
    cases p n <;> simp <;> omega
theorem cn_congr {p q : Nat → Bool} : ∀ {n : Nat}, (∀ i, i < n → p i = q i) → cn p n = cn q n
  | 0, _ => rfl
  | n + 1, h => by
    unfold cn
    rw [cn_congr (fun i hi => h i (by omega)), h n (by omega)]
theorem cn_zero {p : Nat → Bool} : ∀ {n : Nat}, cn p n = 0 ↔ ∀ i, i < n → p i = false
  | 0 => ⟨fun _ i h => absurd h (Nat.not_lt_zero i), fun _ => rfl⟩
  | n + 1 => by
    unfold cn
    have ih := cn_zero (p := p) (n := n)
    constructor
    · intro h i hi
      have h1 : cn p n = 0 := by omega
      cases hp : p n with
      | true => rw [hp, cond_true] at h; omega
      | false =>
        by_cases q : i = n
        · subst q; exact hp
        · exact ih.mp h1 i (by omega)
    · intro h
      rw [ih.mpr (fun i hi => h i (by omega)), h n (by omega)]
      rfl
