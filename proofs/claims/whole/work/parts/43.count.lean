/-! counting -/
def sm (f : Nat → Nat) : Nat → Nat
  | 0 => 0
  | n + 1 => sm f n + f n
theorem cn_add (p : Nat → Bool) (m : Nat) : ∀ n, cn p (m + n) = cn p m + cn (fun i => p (m + i)) n
  | 0 => rfl
  | n + 1 => by
    show cn p (m + n) + _ = _ + (cn _ n + _)
    rw [cn_add p m n]
    exact Nat.add_assoc _ _ _
theorem cn_one {p : Nat → Bool} : ∀ {n : Nat}, 0 < n → (∀ i, 0 < i → i < n → p i = false) → cn p n = bif p 0 then 1 else 0
  | 1, _, _ => by simp [cn]
  | n + 2, _, h => by
    show cn p (n + 1) + _ = _
    rw [cn_one (by omega) (fun i h1 h2 => h i h1 (by omega)), h (n + 1) (by omega) (by omega)]
    rfl
/-- what is counted lies at multiples of d alone -/
theorem cn_step {p : Nat → Bool} {d : Nat} (hd : 0 < d) : ∀ {k : Nat}, (∀ w, w < k * d → p w = true → w % d = 0) → cn p (k * d) = cn (fun i => p (i * d)) k
  | 0, _ => by rw [Nat.zero_mul]; rfl
  | k + 1, h => by
    rw [Nat.add_mul, Nat.one_mul, cn_add, cn_step hd (fun w hw => h w (by rw [Nat.add_mul]; omega)), cn]
    congr 1
    have e := cn_one (p := fun i => p (k * d + i)) hd (fun i h1 h2 => by
      cases hp : p (k * d + i) with
      | false => rfl
      | true =>
        have := h (k * d + i) (by rw [Nat.add_mul]; omega) hp
        rw [Nat.mul_comm, Nat.mul_add_mod, Nat.mod_eq_of_lt h2] at this
        omega)
    rw [e]
    rfl
/-- live words of a block, of the heap -/
def oB (nm : Nat → Int32) (b : Nat) : Nat := cn (fun i => !decide (nm (b * 32 + i) = -1)) 32
def oN (nm : Nat → Int32) (B : Nat) : Nat := cn (fun w => !decide (nm w = -1)) (B * 32)
theorem oN_s (nm : Nat → Int32) (B : Nat) : oN nm (B + 1) = oN nm B + oB nm B := by
  unfold oN oB
  rw [Nat.add_mul, Nat.one_mul, cn_add]
/-- the words of live objects' cells -/
def cwJ (cl : Nat → Int32) (b : Nat) : Nat := cwd (cl b).toNatClampNeg
def oW (nm cl : Nat → Int32) (B : Nat) : Nat := sm (fun b => oB nm b * cwJ cl b) B
theorem oB_free {B : Nat} {mkd : Nat → Bool} {K : KS} (h : bkOK B mkd K) {b : Nat} (hb : b < B) (hf : K.2.2.1 b = -1) : oB K.1 b = 0 := by
  unfold oB
  rw [cn_zero]
  intro i hi
  by_cases q : K.1 (b * 32 + i) = -1
  · simp [q]
  · obtain ⟨c, hc, e, -⟩ := h.2.2.1 _ (by omega) q
    rw [show (b * 32 + i) / 32 = b by omega, hf] at e
    exact absurd e (m1_nI (by omega))
theorem oB_cells {B : Nat} {mkd : Nat → Bool} {K : KS} (h : bkOK B mkd K) {b c : Nat} (hb : b < B) (hc : c < 4) (hcl : K.2.2.1 b = nI c) : oB K.1 b = cn (fun i => !decide (K.1 (b * 32 + i * cwd c) = -1)) (cpb c) := by
  unfold oB
  have e := cn_step (p := fun i => !decide (K.1 (b * 32 + i) = -1)) (d := cwd c) (k := cpb c) (by have := cwd_pos c; omega) ?_
  · rw [cpw c hc] at e
    exact e
  intro w hw hp
  rw [cpw c hc] at hw
  have hn : K.1 (b * 32 + w) ≠ -1 := by simpa using hp
  obtain ⟨c', hc', e1, e2⟩ := h.2.2.1 _ (by omega) hn
  rw [show (b * 32 + w) / 32 = b by omega, hcl] at e1
  have : c' = c := nI_inj (by omega) (by omega) e1.symm
  subst this
  rwa [show (b * 32 + w) % 32 = w by omega] at e2
theorem oB_le (nm : Nat → Int32) (b : Nat) : oB nm b ≤ 32 := cn_le _ _
theorem oW_le (nm cl : Nat → Int32) : ∀ B, (∀ b, b < B → cl b = -1 ∨ ∃ c, c < 4 ∧ cl b = nI c) → oW nm cl B ≤ 512 * B
  | 0, _ => by simp [oW, sm]
  | B + 1, h => by
    have ih := oW_le nm cl B (fun b hb => h b (by omega))
    have h1 := oB_le nm B
    have h2 : cwJ cl B ≤ 16 := by
      unfold cwJ
      rcases h B (by omega) with e | ⟨c, hc, e⟩
      · rw [e]; decide
      · rw [e, nI_clamp (by omega)]; exact cwd_le c hc
    have h3 : oB nm B * cwJ cl B ≤ 32 * 16 := Nat.mul_le_mul h1 h2
    show sm (fun b => oB nm b * cwJ cl b) B + oB nm B * cwJ cl B ≤ 512 * (B + 1)
    unfold oW at ih
    omega
section CT
variable {B : Nat} {a : Nat → Nat → Int32} {v : Nat → Int32} {r : xW}
theorem c_objectsIn (hB : B ≤ 16) {K : KS} {mkd : Nat → Bool} (hK : bkOK B mkd K) (hr : repK B a v K) {b : Nat} (hb : b < B) : Tot none kX0_objectsIn [.ref 15, .int (nI b)] (wC B a v r) (rI (nI (oB K.1 b)) (wC B a v r)) := by
  refine eX0_objectsIn ?_
  refine V.run 20 rfl ?_
  rcases hK.1 b hb with hf | ⟨c, hc, hcl⟩
  · refine V.cv rfl (c_cellsIn0 hB hb ((hr.2.2.1 b hb).trans hf)) rfl rfl ?_
    rintro _ _ ⟨rfl, rfl⟩
    refine V.run 20 rfl ?_
    refine V.brT rfl rfl (nI_le (Nat.le_refl 0) (by omega)) ?_
    refine V.run 20 rfl ?_
    exact V.ri rfl ⟨by rw [oB_free hK hb hf], rfl⟩
  · have h10 : a 10 b = nI c := (hr.2.2.1 b hb).trans hcl
    have hcp := cpb_le c hc
    have loop : ∀ (m i : Nat), i + m = cpb c → V none 8 (rI (nI (oB K.1 b)) (wC B a v r)) (0, 0) 14 [(0, .ref 15), (1, .int (nI b)), (2, .int (nI (cn (fun i => !decide (K.1 (b * 32 + i * cwd c) = -1)) i))), (3, .int (nI (cpb c))), (4, .int (nI i))] [.int (nI (cpb c)), .int (nI i)] (wC B a v r) := by
      intro m
      induction m with
      | zero =>
        intro i hi
        have e : i = cpb c := by omega
        subst e
        refine V.brT rfl rfl (nI_le (Nat.le_refl _) (by omega)) ?_
        refine V.run 20 rfl ?_
        exact V.ri rfl ⟨by rw [oB_cells hK hb hc hcl], rfl⟩
      | succ m ih =>
        intro i hi
        have hic : i < cpb c := by omega
        have hcw := cw_in hc hic
        have hcp2 := cwd_pos c
        have hxB : b * 32 + i * cwd c < 32 * B := by omega
        have ih := ih (i + 1) (by omega)
        rw [cn] at ih
        refine V.brF rfl rfl (nI_ge hic (by omega)) ?_
        refine V.run 20 rfl ?_
        refine V.cv rfl (c_cellOf hB hb hc h10) rfl rfl ?_
        rintro _ _ ⟨rfl, rfl⟩
        refine V.cv rfl (c_nameAtE hB hxB (hr.1 _ hxB)) rfl rfl ?_
        rintro _ _ ⟨rfl, rfl⟩
        refine V.run 20 rfl ?_
        by_cases hn : K.1 (b * 32 + i * cwd c) = -1
        · rw [show (!decide (K.1 (b * 32 + i * cwd c) = -1)) = false by simp [hn]] at ih
          refine V.brT rfl rfl hn ?_
          refine V.run 20 rfl ?_
          refine V.cs rfl c_oneIf0 rfl ?_
          rintro _ _ ⟨rfl, rfl⟩
          refine V.run 20 rfl ?_
          rw [nI_add, nI_add]
          exact ih
        · rw [show (!decide (K.1 (b * 32 + i * cwd c) = -1)) = true by simp [hn]] at ih
          refine V.brF rfl rfl hn ?_
          refine V.run 20 rfl ?_
          refine V.cs rfl c_oneIf1 rfl ?_
          rintro _ _ ⟨rfl, rfl⟩
          refine V.run 20 rfl ?_
          rw [nI_add, nI_add]
          exact ih
    refine V.cv rfl (c_cellsIn hB hb hc h10) rfl rfl ?_
    rintro _ _ ⟨rfl, rfl⟩
    refine V.run 20 rfl ?_
    exact loop (cpb c) 0 (by omega)
theorem c_emptyCellsIn (hB : B ≤ 16) {K : KS} {mkd : Nat → Bool} (hK : bkOK B mkd K) (hr : repK B a v K) {b c : Nat} (hb : b < B) (hc : c < 4) (hcl : K.2.2.1 b = nI c) : Tot none kX0_emptyCellsIn [.ref 15, .int (nI b)] (wC B a v r) (rI (nI (cpb c) - nI (oB K.1 b)) (wC B a v r)) := by
  refine eX0_emptyCellsIn ?_
  refine V.run 20 rfl ?_
  refine V.cv rfl (c_cellsIn hB hb hc ((hr.2.2.1 b hb).trans hcl)) rfl rfl ?_
  rintro _ _ ⟨rfl, rfl⟩
  refine V.run 20 rfl ?_
  refine V.cv rfl (c_objectsIn hB hK hr hb) rfl rfl ?_
  rintro _ _ ⟨rfl, rfl⟩
  refine V.run 20 rfl ?_
  exact V.ri rfl ⟨rfl, rfl⟩
theorem c_emptyCellsIn0 (hB : B ≤ 16) {K : KS} {mkd : Nat → Bool} (hK : bkOK B mkd K) (hr : repK B a v K) {b : Nat} (hb : b < B) (hf : K.2.2.1 b = -1) : Tot none kX0_emptyCellsIn [.ref 15, .int (nI b)] (wC B a v r) (rI (nI 0) (wC B a v r)) := by
  refine eX0_emptyCellsIn ?_
  refine V.run 20 rfl ?_
  refine V.cv rfl (c_cellsIn0 hB hb ((hr.2.2.1 b hb).trans hf)) rfl rfl ?_
  rintro _ _ ⟨rfl, rfl⟩
  refine V.run 20 rfl ?_
  refine V.cv rfl (c_objectsIn hB hK hr hb) rfl rfl ?_
  rintro _ _ ⟨rfl, rfl⟩
  refine V.run 20 rfl ?_
  exact V.ri rfl ⟨by rw [oB_free hK hb hf]; rfl, rfl⟩
theorem c_objects (hB : B ≤ 16) {K : KS} {mkd : Nat → Bool} (hK : bkOK B mkd K) (hr : repK B a v K) : Tot none kX0_objects [.ref 15] (wC B a v r) (rI (nI (oN K.1 B)) (wC B a v r)) := by
  have loop : ∀ (m b : Nat), b + m = B → V none 10 (rI (nI (oN K.1 B)) (wC B a v r)) (0, 0) 10 [(0, .ref 15), (1, .int (nI (oN K.1 b))), (2, .int (nI b))] [.int (nI B), .int (nI b)] (wC B a v r) := by
    intro m
    induction m with
    | zero =>
      intro b hb
      have e : b = B := by omega
      subst e
      refine V.brT rfl rfl (nI_le (Nat.le_refl _) (by omega)) ?_
      refine V.run 20 rfl ?_
      exact V.ri rfl ⟨rfl, rfl⟩
    | succ m ih =>
      intro b hb
      have ih := ih (b + 1) (by omega)
      rw [oN_s] at ih
      refine V.brF rfl rfl (nI_ge (show b < B by omega) (by omega)) ?_
      refine V.run 20 rfl ?_
      refine V.cv rfl (c_objectsIn hB hK hr (show b < B by omega)) rfl rfl ?_
      rintro _ _ ⟨rfl, rfl⟩
      refine V.run 20 rfl ?_
      rw [nI_add, nI_add]
      exact ih
  refine eX0_objects ?_
  refine V.run 20 rfl ?_
  exact loop B 0 (by omega)
theorem c_usedWords (hB : B ≤ 16) {K : KS} {mkd : Nat → Bool} (hK : bkOK B mkd K) (hr : repK B a v K) : Tot none kX0_usedWords [.ref 15] (wC B a v r) (rI (nI (oW K.1 K.2.2.1 B)) (wC B a v r)) := by
  have loop : ∀ (m b : Nat), b + m = B → V none 11 (rI (nI (oW K.1 K.2.2.1 B)) (wC B a v r)) (0, 0) 10 [(0, .ref 15), (1, .int (nI (oW K.1 K.2.2.1 b))), (2, .int (nI b))] [.int (nI B), .int (nI b)] (wC B a v r) := by
    intro m
    induction m with
    | zero =>
      intro b hb
      have e : b = B := by omega
      subst e
      refine V.brT rfl rfl (nI_le (Nat.le_refl _) (by omega)) ?_
      refine V.run 20 rfl ?_
      exact V.ri rfl ⟨rfl, rfl⟩
    | succ m ih =>
      intro b hbm
      have hb : b < B := by omega
      have ih := ih (b + 1) (by omega)
      have es : oW K.1 K.2.2.1 (b + 1) = oW K.1 K.2.2.1 b + oB K.1 b * cwJ K.2.2.1 b := rfl
      rw [es] at ih
      refine V.brF rfl rfl (nI_ge hb (by omega)) ?_
      refine V.run 20 rfl ?_
      refine V.ialE rfl rfl rfl hb (by omega) (hr.2.2.1 b hb) ?_
      refine V.run 20 rfl ?_
      rcases hK.1 b hb with hf | ⟨c, hc, hcl⟩
      · rw [oB_free hK hb hf, Nat.zero_mul, Nat.add_zero] at ih
        refine V.brT rfl rfl hf ?_
        refine V.run 20 rfl ?_
        rw [nI_add]
        exact ih
      · have ej : cwJ K.2.2.1 b = cwd c := by unfold cwJ; rw [hcl, nI_clamp (by omega)]
        rw [ej] at ih
        refine V.brF rfl rfl (by rw [hcl]; exact nI_m1 (by omega)) ?_
        refine V.run 20 rfl ?_
        refine V.cv rfl (c_objectsIn hB hK hr hb) rfl rfl ?_
        rintro _ _ ⟨rfl, rfl⟩
        refine V.run 20 rfl ?_
        refine V.ialE rfl rfl rfl hb (by omega) ((hr.2.2.1 b hb).trans hcl) ?_
        refine V.cs rfl (c_cellWords hc) rfl ?_
        rintro _ _ ⟨rfl, rfl⟩
        refine V.run 20 rfl ?_
        rw [pk_mul, nI_add, nI_add]
        exact ih
  refine eX0_usedWords ?_
  refine V.run 20 rfl ?_
  exact loop B 0 (by omega)
theorem c_freeBlocks (hB : B ≤ 16) {K : KS} (hr : repK B a v K) : Tot none kX0_freeBlocks [.ref 15] (wC B a v r) (rI (nI (cn (fun b => decide (K.2.2.1 b = -1)) B)) (wC B a v r)) := by
  have loop : ∀ (m b : Nat), b + m = B → V none 12 (rI (nI (cn (fun b => decide (K.2.2.1 b = -1)) B)) (wC B a v r)) (0, 0) 10 [(0, .ref 15), (1, .int (nI (cn (fun b => decide (K.2.2.1 b = -1)) b))), (2, .int (nI b))] [.int (nI B), .int (nI b)] (wC B a v r) := by
    intro m
    induction m with
    | zero =>
      intro b hb
      have e : b = B := by omega
      subst e
      refine V.brT rfl rfl (nI_le (Nat.le_refl _) (by omega)) ?_
      refine V.run 20 rfl ?_
      exact V.ri rfl ⟨rfl, rfl⟩
    | succ m ih =>
      intro b hbm
      have hb : b < B := by omega
      have ih := ih (b + 1) (by omega)
      rw [cn] at ih
      refine V.brF rfl rfl (nI_ge hb (by omega)) ?_
      refine V.run 20 rfl ?_
      refine V.ialE rfl rfl rfl hb (by omega) (hr.2.2.1 b hb) ?_
      refine V.run 20 rfl ?_
      by_cases hf : K.2.2.1 b = -1
      · rw [show decide (K.2.2.1 b = -1) = true by simp [hf]] at ih
        refine V.brF rfl rfl (fun h => h hf) ?_
        refine V.run 20 rfl ?_
        refine V.cs rfl c_oneIf1 rfl ?_
        rintro _ _ ⟨rfl, rfl⟩
        refine V.run 20 rfl ?_
        rw [nI_add, nI_add]
        exact ih
      · rw [show decide (K.2.2.1 b = -1) = false by simp [hf]] at ih
        refine V.brT rfl rfl hf ?_
        refine V.run 20 rfl ?_
        refine V.cs rfl c_oneIf0 rfl ?_
        rintro _ _ ⟨rfl, rfl⟩
        refine V.run 20 rfl ?_
        rw [nI_add, nI_add]
        exact ih
  refine eX0_freeBlocks ?_
  refine V.run 20 rfl ?_
  exact loop B 0 (by omega)
theorem c_unsweptBlocks (hB : B ≤ 16) {K : KS} {mkd : Nat → Bool} (hK : bkOK B mkd K) (hr : repK B a v K) : Tot none kX0_unsweptBlocks [.ref 15] (wC B a v r) (rI (nI (cn (fun b => decide (K.2.2.2.1 b = 1)) B)) (wC B a v r)) := by
  have loop : ∀ (m b : Nat), b + m = B → V none 13 (rI (nI (cn (fun b => decide (K.2.2.2.1 b = 1)) B)) (wC B a v r)) (0, 0) 10 [(0, .ref 15), (1, .int (nI (cn (fun b => decide (K.2.2.2.1 b = 1)) b))), (2, .int (nI b))] [.int (nI B), .int (nI b)] (wC B a v r) := by
    intro m
    induction m with
    | zero =>
      intro b hb
      have e : b = B := by omega
      subst e
      refine V.brT rfl rfl (nI_le (Nat.le_refl _) (by omega)) ?_
      refine V.run 20 rfl ?_
      exact V.ri rfl ⟨rfl, rfl⟩
    | succ m ih =>
      intro b hbm
      have hb : b < B := by omega
      have ih := ih (b + 1) (by omega)
      rw [cn] at ih
      refine V.brF rfl rfl (nI_ge hb (by omega)) ?_
      refine V.run 20 rfl ?_
      rcases hK.2.1 b hb with h0 | ⟨h1, -⟩
      · rw [show decide (K.2.2.2.1 b = 1) = false by rw [h0]; rfl] at ih
        refine V.cv rfl (c_isUnsweptE hB hb ((hr.2.2.2.1 b hb).trans h0) (Or.inl rfl)) rfl rfl ?_
        rintro _ _ ⟨rfl, rfl⟩
        refine V.cs rfl (c_oneIfz (Or.inl rfl)) rfl ?_
        rintro _ _ ⟨rfl, rfl⟩
        refine V.run 20 rfl ?_
        rw [show (0 : Int32) = nI 0 from rfl, nI_add, nI_add]
        exact ih
      · rw [show decide (K.2.2.2.1 b = 1) = true by rw [h1]; rfl] at ih
        refine V.cv rfl (c_isUnsweptE hB hb ((hr.2.2.2.1 b hb).trans h1) (Or.inr rfl)) rfl rfl ?_
        rintro _ _ ⟨rfl, rfl⟩
        refine V.cs rfl (c_oneIfz (Or.inr rfl)) rfl ?_
        rintro _ _ ⟨rfl, rfl⟩
        refine V.run 20 rfl ?_
        rw [show (1 : Int32) = nI 1 from rfl, nI_add, nI_add]
        exact ih
  refine eX0_unsweptBlocks ?_
  refine V.run 20 rfl ?_
  exact loop B 0 (by omega)
theorem c_firstUnswept (hB : B ≤ 16) {K : KS} {mkd : Nat → Bool} (hK : bkOK B mkd K) (hr : repK B a v K) : Tot none kX0_firstUnswept [.ref 15] (wC B a v r) (rI (oA (ff (fun b => decide (K.2.2.2.1 b = 1)) B 0)) (wC B a v r)) := by
  have loop : ∀ (m b : Nat), b + m = B → V none 14 (rI (oA (ff (fun b => decide (K.2.2.2.1 b = 1)) m b)) (wC B a v r)) (0, 0) 8 [(0, .ref 15), (1, .int (nI b))] [.int (nI B), .int (nI b)] (wC B a v r) := by
    intro m
    induction m with
    | zero =>
      intro b hb
      refine V.brT rfl rfl (nI_le (by omega) (by omega)) ?_
      refine V.run 20 rfl ?_
      exact V.ri rfl ⟨rfl, rfl⟩
    | succ m ih =>
      intro b hbm
      have hb : b < B := by omega
      have ih := ih (b + 1) (by omega)
      unfold ff
      refine V.brF rfl rfl (nI_ge hb (by omega)) ?_
      refine V.run 20 rfl ?_
      rcases hK.2.1 b hb with h0 | ⟨h1, -⟩
      · rw [show decide (K.2.2.2.1 b = 1) = false by rw [h0]; rfl]
        refine V.cv rfl (c_isUnsweptE hB hb ((hr.2.2.2.1 b hb).trans h0) (Or.inl rfl)) rfl rfl ?_
        rintro _ _ ⟨rfl, rfl⟩
        refine V.brT rfl rfl rfl ?_
        refine V.run 20 rfl ?_
        rw [nI_add]
        exact ih
      · rw [show decide (K.2.2.2.1 b = 1) = true by rw [h1]; rfl]
        refine V.cv rfl (c_isUnsweptE hB hb ((hr.2.2.2.1 b hb).trans h1) (Or.inr rfl)) rfl rfl ?_
        rintro _ _ ⟨rfl, rfl⟩
        refine V.brF rfl rfl (by decide) ?_
        refine V.run 20 rfl ?_
        exact V.ri rfl ⟨rfl, rfl⟩
  refine eX0_firstUnswept ?_
  refine V.run 20 rfl ?_
  exact loop B 0 (by omega)
theorem c_watchedObjects (hB : B ≤ 16) {wt : Nat → Int32} (hr : ∀ w, w < 32 * B → a 2 w = wt w) (h01 : ∀ w, w < 32 * B → wt w = 0 ∨ wt w = 1) : Tot none kX2_watchedObjects [.ref 1] (wC B a v r) (rI (nI (cn (fun k => decide (wt (2 * k) = 1)) (16 * B))) (wC B a v r)) := by
  have loop : ∀ (m k : Nat), k + m = 16 * B → V none 41 (rI (nI (cn (fun k => decide (wt (2 * k) = 1)) (16 * B))) (wC B a v r)) (0, 0) 10 [(0, .ref 1), (1, .int (nI (cn (fun k => decide (wt (2 * k) = 1)) k))), (2, .int (nI (2 * k)))] [.int (nI (32 * B)), .int (nI (2 * k))] (wC B a v r) := by
    intro m
    induction m with
    | zero =>
      intro k hk
      have e : k = 16 * B := by omega
      subst e
      refine V.brT rfl rfl (nI_le (by omega) (by omega)) ?_
      refine V.run 20 rfl ?_
      exact V.ri rfl ⟨rfl, rfl⟩
    | succ m ih =>
      intro k hkm
      have hk : 2 * k < 32 * B := by omega
      have ih := ih (k + 1) (by omega)
      rw [cn, show 2 * (k + 1) = 2 * k + 2 by omega] at ih
      refine V.brF rfl rfl (nI_ge hk (by omega)) ?_
      refine V.run 20 rfl ?_
      rcases h01 _ hk with h0 | h1
      · rw [show decide (wt (2 * k) = 1) = false by rw [h0]; rfl] at ih
        refine V.zalE rfl rfl rfl hk (by omega) ((hr _ hk).trans h0) ?_
        refine V.cs rfl (c_oneIfz (Or.inl rfl)) rfl ?_
        rintro _ _ ⟨rfl, rfl⟩
        refine V.run 20 rfl ?_
        rw [show (0 : Int32) = nI 0 from rfl, nI_add, nI_add]
        exact ih
      · rw [show decide (wt (2 * k) = 1) = true by rw [h1]; rfl] at ih
        refine V.zalE rfl rfl rfl hk (by omega) ((hr _ hk).trans h1) ?_
        refine V.cs rfl (c_oneIfz (Or.inr rfl)) rfl ?_
        rintro _ _ ⟨rfl, rfl⟩
        refine V.run 20 rfl ?_
        rw [show (1 : Int32) = nI 1 from rfl, nI_add, nI_add]
        exact ih
  refine eX2_watchedObjects ?_
  refine V.run 20 rfl ?_
  exact loop (16 * B) 0 (by omega)
end CT
