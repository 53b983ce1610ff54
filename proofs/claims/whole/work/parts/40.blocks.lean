/-! BLOCKS, purely: names, watched, classes, unswept, how often it was swept -/
abbrev KS : Type := (Nat → Int32) × (Nat → Int32) × (Nat → Int32) × (Nat → Int32) × Int32
def swN (mkd : Nat → Bool) (nm : Nat → Int32) (b : Nat) : Nat → Int32 := fun w => bif Nat.beq (w / 32) b && !mkd w then -1 else nm w
def swW (mkd : Nat → Bool) (wt : Nat → Int32) (b : Nat) : Nat → Int32 := fun w => bif Nat.beq (w / 32) b && !mkd w then 0 else wt w
/-- a block without an object -/
def blkE (nm : Nat → Int32) (b : Nat) : Bool := (List.range 32).all (fun i => decide (nm (b * 32 + i) = -1))
/-- a block is swept -/
def sw1 (mkd : Nat → Bool) (K : KS) (b : Nat) : KS := (swN mkd K.1 b, swW mkd K.2.1 b, (if blkE (swN mkd K.1 b) b = true then upd K.2.2.1 b (-1) else K.2.2.1), upd K.2.2.2.1 b 0, K.2.2.2.2 + nI 1)
def bkOK (B : Nat) (mkd : Nat → Bool) (K : KS) : Prop :=
  (∀ b, b < B → K.2.2.1 b = -1 ∨ ∃ c, c < 4 ∧ K.2.2.1 b = nI c) ∧
  (∀ b, b < B → K.2.2.2.1 b = 0 ∨ K.2.2.2.1 b = 1 ∧ K.2.2.1 b ≠ -1) ∧
  (∀ w, w < 32 * B → K.1 w ≠ -1 → ∃ c, c < 4 ∧ K.2.2.1 (w / 32) = nI c ∧ w % 32 % cwd c = 0) ∧
  (∀ w, w < 32 * B → K.2.1 w = 0 ∨ K.2.1 w = 1 ∧ K.1 w ≠ -1) ∧
  (∀ w, w < 32 * B → mkd w = true → K.1 w ≠ -1)
theorem blkE_iff {nm : Nat → Int32} {b : Nat} : blkE nm b = true ↔ ∀ w, w / 32 = b → nm w = -1 := by
  unfold blkE
  rw [List.all_eq_true]
  constructor
  · intro h w hw
    have h1 := h (w % 32) (List.mem_range.mpr (Nat.mod_lt _ (by omega)))
    rw [decide_eq_true_eq] at h1
    rw [← h1]
    congr 1
    omega
  · intro h i hi
    rw [List.mem_range] at hi
    rw [decide_eq_true_eq]
    exact h _ (by omega)
theorem swN_in {mkd : Nat → Bool} {nm : Nat → Int32} {b w : Nat} (h : w / 32 = b) (hm : mkd w = false) : swN mkd nm b w = -1 := by simp [swN, h, hm]
theorem swN_out {mkd : Nat → Bool} {nm : Nat → Int32} {b w : Nat} (h : w / 32 ≠ b ∨ mkd w = true) : swN mkd nm b w = nm w := by
  rcases h with h | h
  · have e : Nat.beq (w / 32) b = false := by rw [Bool.eq_false_iff]; exact fun q => h (Nat.eq_of_beq_eq_true q)
    simp [swN, e]
  · simp [swN, h]
theorem swW_in {mkd : Nat → Bool} {wt : Nat → Int32} {b w : Nat} (h : w / 32 = b) (hm : mkd w = false) : swW mkd wt b w = 0 := by simp [swW, h, hm]
theorem swW_out {mkd : Nat → Bool} {wt : Nat → Int32} {b w : Nat} (h : w / 32 ≠ b ∨ mkd w = true) : swW mkd wt b w = wt w := by
  rcases h with h | h
  · have e : Nat.beq (w / 32) b = false := by rw [Bool.eq_false_iff]; exact fun q => h (Nat.eq_of_beq_eq_true q)
    simp [swW, e]
  · simp [swW, h]
theorem sw1_ok {B : Nat} {mkd : Nat → Bool} {K : KS} (h : bkOK B mkd K) {b : Nat} (hb : b < B) : bkOK B mkd (sw1 mkd K b) := by
  obtain ⟨h1, h2, h3, h4, h5⟩ := h
  have io : ∀ w, (w / 32 = b ∧ mkd w = false) ∨ (w / 32 ≠ b ∨ mkd w = true) := by
    intro w
    by_cases q : w / 32 = b
    · cases hm : mkd w
      · exact Or.inl ⟨q, rfl⟩
      · exact Or.inr (Or.inr rfl)
    · exact Or.inr (Or.inl q)
  have hcl : ∀ b', b' < B → (sw1 mkd K b).2.2.1 b' = K.2.2.1 b' ∨ ((sw1 mkd K b).2.2.1 b' = -1 ∧ b' = b ∧ blkE (swN mkd K.1 b) b = true) := by
    intro b' _
    show (if blkE (swN mkd K.1 b) b = true then upd K.2.2.1 b (-1) else K.2.2.1) b' = _ ∨ _
    split
    · rename_i he
      by_cases q : b' = b
      · subst q
        exact Or.inr ⟨by
          show (if blkE (swN mkd K.1 b') b' = true then upd K.2.2.1 b' (-1) else K.2.2.1) b' = -1
          rw [if_pos he, upd_s], rfl, he⟩
      · exact Or.inl (upd_n q)
    · exact Or.inl rfl
  refine ⟨fun b' hb' => ?_, fun b' hb' => ?_, fun w hw hn => ?_, fun w hw => ?_, fun w hw hm => ?_⟩
  · rcases hcl b' hb' with e | e
    · rw [e]; exact h1 b' hb'
    · exact Or.inl e.1
  · show upd K.2.2.2.1 b 0 b' = 0 ∨ upd K.2.2.2.1 b 0 b' = 1 ∧ _
    by_cases q : b' = b
    · subst q; exact Or.inl upd_s
    · rw [upd_n q]
      rcases hcl b' hb' with e | e
      · rw [e]; exact h2 b' hb'
      · exact absurd e.2.1 q
  · have hn' : swN mkd K.1 b w ≠ -1 := hn
    rcases io w with ⟨q, hm⟩ | q
    · exact absurd (swN_in q hm) hn'
    · rw [swN_out q] at hn'
      obtain ⟨c, hc, e1, e2⟩ := h3 w hw hn'
      refine ⟨c, hc, ?_, e2⟩
      rcases hcl (w / 32) (by omega) with e | e
      · rw [e]; exact e1
      · exact absurd (blkE_iff.mp e.2.2 w e.2.1) hn
  · show swW mkd K.2.1 b w = 0 ∨ swW mkd K.2.1 b w = 1 ∧ swN mkd K.1 b w ≠ -1
    rcases io w with ⟨q, hm⟩ | q
    · exact Or.inl (swW_in q hm)
    · rw [swW_out q, swN_out q]; exact h4 w hw
  · show swN mkd K.1 b w ≠ -1
    rw [swN_out (Or.inr hm)]
    exact h5 w hw hm
/-- the first number from i on, of c, with p -/
def ff (p : Nat → Bool) : Nat → Nat → Option Nat
  | 0, _ => none
  | c + 1, i => bif p i then some i else ff p c (i + 1)
def oA (o : Option Nat) : Int32 := match o with
  | none => -1
  | some x => nI x
/-- the first empty cell of a block of class c -/
def ecB (nm : Nat → Int32) (b c : Nat) : Option Nat := (ff (fun i => decide (nm (b * 32 + i * cwd c) = -1)) (cpb c) 0).map (fun i => b * 32 + i * cwd c)
/-- the first empty cell in swept blocks of class c: from block b on, n of them -/
def ecA (K : KS) (c : Nat) : Nat → Nat → Option Nat
  | 0, _ => none
  | n + 1, b => if K.2.2.1 b = nI c ∧ K.2.2.2.1 b = 0 then (match ecB K.1 b c with
    | some x => some x
    | none => ecA K c n (b + 1)) else ecA K c n (b + 1)
/-- unswept blocks of class c are swept till one has an empty cell or is free -/
def cOwn (mkd : Nat → Bool) (c : Nat) : Nat → Nat → KS → KS
  | 0, _, K => K
  | n + 1, b, K => if K.2.2.1 b = nI c ∧ K.2.2.2.1 b = 1 then
      (if (sw1 mkd K b).2.2.1 b = -1 ∨ ecB (sw1 mkd K b).1 b c ≠ none then sw1 mkd K b else cOwn mkd c n (b + 1) (sw1 mkd K b))
    else cOwn mkd c n (b + 1) K
/-- unswept blocks of other classes are swept till one is free -/
def cOth (mkd : Nat → Bool) (c : Nat) : Nat → Nat → KS → KS × Option Nat
  | 0, _, K => (K, none)
  | n + 1, b, K => if K.2.2.1 b ≠ nI c ∧ K.2.2.2.1 b = 1 then
      (if (sw1 mkd K b).2.2.1 b = -1 then (sw1 mkd K b, some b) else cOth mkd c n (b + 1) (sw1 mkd K b))
    else cOth mkd c n (b + 1) K
def fFree (K : KS) (B : Nat) : Option Nat := ff (fun b => decide (K.2.2.1 b = -1)) B 0
def opn (K : KS) (b c : Nat) : KS := (K.1, K.2.1, upd K.2.2.1 b (nI c), K.2.2.2)
/-- a cell for an object of class c, without marking -/
def fCell (mkd : Nat → Bool) (B c : Nat) (K : KS) : KS × Option Nat :=
  match ecA K c B 0 with
  | some x => (K, some x)
  | none => match ecA (cOwn mkd c B 0 K) c B 0 with
    | some x => (cOwn mkd c B 0 K, some x)
    | none => match fFree (cOwn mkd c B 0 K) B with
      | some b => (opn (cOwn mkd c B 0 K) b c, some (b * 32))
      | none => match cOth mkd c B 0 (cOwn mkd c B 0 K) with
        | (K2, some b) => (opn K2 b c, some (b * 32))
        | (K2, none) => (K2, none)
theorem ff_some {p : Nat → Bool} {x : Nat} : ∀ {c i : Nat}, ff p c i = some x → i ≤ x ∧ x < i + c ∧ p x = true ∧ ∀ j, i ≤ j → j < x → p j = false
  | 0, _, h => by simp [ff] at h
  | c + 1, i, h => by
    unfold ff at h
    cases hp : p i with
    | true =>
      rw [hp, cond_true] at h
      cases h
      exact ⟨Nat.le_refl _, by omega, hp, fun j h1 h2 => by omega⟩
    | false =>
      rw [hp, cond_false] at h
      obtain ⟨h1, h2, h3, h4⟩ := ff_some h
      refine ⟨by omega, by omega, h3, fun j h5 h6 => ?_⟩
      by_cases q : j = i
      · subst q; exact hp
      · exact h4 j (by omega) h6
theorem ff_none {p : Nat → Bool} : ∀ {c i : Nat}, ff p c i = none ↔ ∀ j, i ≤ j → j < i + c → p j = false
  | 0, i => by
    constructor
    · intro _ j h1 h2; omega
    · intro _; rfl
  | c + 1, i => by
    unfold ff
    cases hp : p i with
    | true =>
      rw [cond_true]
      constructor
      · intro h; cases h
      · intro h; rw [h i (Nat.le_refl _) (by omega)] at hp; cases hp
    | false =>
      rw [cond_false, ff_none]
      constructor
      · intro h j h1 h2
        by_cases q : j = i
        · subst q; exact hp
        · exact h j (by omega) (by omega)
      · intro h j h1 h2
        exact h j (by omega) (by omega)
theorem ff_congr {p q : Nat → Bool} : ∀ {c i : Nat}, (∀ j, i ≤ j → j < i + c → p j = q j) → ff p c i = ff q c i
  | 0, _, _ => rfl
  | c + 1, i, h => by
    unfold ff
    rw [h i (Nat.le_refl _) (by omega), ff_congr (fun j h1 h2 => h j (by omega) (by omega))]
theorem ecB_lt {nm : Nat → Int32} {b c x : Nat} (hc : c < 4) (h : ecB nm b c = some x) : x / 32 = b ∧ x % 32 % cwd c = 0 ∧ nm x = -1 := by
  unfold ecB at h
  obtain ⟨i, hi, rfl⟩ := Option.map_eq_some_iff.mp h
  obtain ⟨-, h2, h3, -⟩ := ff_some hi
  have h4 := cw_in hc (show i < cpb c by omega)
  have h5 := cwd_pos c
  refine ⟨by omega, ?_, of_decide_eq_true h3⟩
  rw [show (b * 32 + i * cwd c) % 32 = i * cwd c by omega]
  exact Nat.mul_mod_left i (cwd c)
/-- a word of a block at a cell's beginning -/
theorem cell_of {w c : Nat} (hc : c < 4) (h : w % 32 % cwd c = 0) : ∃ i, i < cpb c ∧ w = w / 32 * 32 + i * cwd c := by
  have h5 := cwd_pos c
  refine ⟨w % 32 / cwd c, ?_, ?_⟩
  · rw [Nat.div_lt_iff_lt_mul (by omega), cpw c hc]
    exact Nat.mod_lt _ (by omega)
  · have h6 := Nat.div_add_mod (w % 32) (cwd c)
    rw [h, Nat.add_zero, Nat.mul_comm] at h6
    rw [h6]
    omega
