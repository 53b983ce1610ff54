/-- the reference's cells -/
def mC (B : Nat) (a : Nat → Nat → Int32) (v : Nat → Int32) : xW :=
  .inr (5, [.int (v 0), .int (nI B), .int (v 1), .int (v 2), .int (v 3), .ref 20, .ref 21, .ref 22, .ref 23, .ref 24, .ref 25, .ref 26, .ref 27, .ref 28, .int (v 4), .ref 29, .int (v 5), .ref 30, .ref 31]) ::
  .inl (false, 16, a 0) :: .inl (true, 16, a 1) :: .inl (false, 512, a 2) :: .inl (false, 512, a 3) :: .inl (true, 512, a 4) :: .inl (true, 512, a 5) :: .inl (false, 512, a 6) :: .inl (false, 512, a 7) :: .inl (false, 16, a 8) :: .inl (false, 512, a 9) :: .inl (false, 512, a 10) :: .inl (false, 512, a 11) :: []
/-- the class's cells, one by one -/
def cC (B : Nat) (a : Nat → Nat → Int32) (v : Nat → Int32) (i : Nat) : xC := (wC B a v []).getD i (.inr (0, []))
theorem wCM (B : Nat) (a : Nat → Nat → Int32) (v : Nat → Int32) (am : Nat → Nat → Int32) (vm : Nat → Int32) : wM (cC B a v) B am vm = wC B a v (mC B am vm) := rfl
section CM5
variable {B : Nat} {a : Nat → Nat → Int32} {v : Nat → Int32}
theorem i_Model {z : Int32} (hz : (z < nI 1 ∧ B = 1) ∨ (nI 16 < z ∧ B = 16) ∨ (z = nI B ∧ 1 ≤ B ∧ B ≤ 16)) : Tot none kX5_init [.ref 19, .int z] (wC B a v [.inr (5, [.int 0, .int 0, .int 0, .int 0, .int 0, .null, .null, .null, .null, .null, .null, .null, .null, .null, .int 0, .null, .int 0, .null, .null])]) (fun o w' => o = none ∧ ∃ am vm, w' = wC B a v (mC B am vm) ∧ (∀ x, x < 512 → am 2 x = -1) ∧ (∀ x, x < 16 → am 0 x = -1) ∧ (∀ x, x < 16 → am 8 x = -1) ∧ (∀ i, i ≠ 0 → i ≠ 2 → i ≠ 8 → am i = z0) ∧ ∀ i, vm i = 0) := by
  have hB : B ≤ 16 := by rcases hz with h | h | h <;> omega
  refine eX5_init ?_
  refine V.run 20 rfl ?_
  refine V.oinit rfl x_oi_85 ?_
  refine V.run 20 rfl ?_
  refine V.mkI (1, 16) 20 (wC B a v [.inr (5, [.int 0, .int 0, .int 0, .int 0, .int 0, .null, .null, .null, .null, .null, .null, .null, .null, .null, .int 0, .null, .int 0, .null, .null]), .inl (false, 16, z0)]) rfl (show _ = nI 16 from rfl) (by omega) ⟨by decide, by decide⟩ ?_
  refine V.putF (w' := (wC B a v [.inr (5, [.int 0, .int 0, .int 0, .int 0, .int 0, .ref 20, .null, .null, .null, .null, .null, .null, .null, .null, .int 0, .null, .int 0, .null, .null]), .inl (false, 16, z0)])) rfl rfl rfl ?_
  refine V.run 20 rfl ?_
  refine V.mkZ (2, 32) 21 (wC B a v [.inr (5, [.int 0, .int 0, .int 0, .int 0, .int 0, .ref 20, .null, .null, .null, .null, .null, .null, .null, .null, .int 0, .null, .int 0, .null, .null]), .inl (false, 16, z0), .inl (true, 16, z0)]) rfl (show _ = nI 16 from rfl) (by omega) ⟨by decide, by decide⟩ ?_
  refine V.putF (w' := (wC B a v [.inr (5, [.int 0, .int 0, .int 0, .int 0, .int 0, .ref 20, .ref 21, .null, .null, .null, .null, .null, .null, .null, .int 0, .null, .int 0, .null, .null]), .inl (false, 16, z0), .inl (true, 16, z0)])) rfl rfl rfl ?_
  refine V.run 20 rfl ?_
  refine V.mkI (3, 544) 22 (wC B a v [.inr (5, [.int 0, .int 0, .int 0, .int 0, .int 0, .ref 20, .ref 21, .null, .null, .null, .null, .null, .null, .null, .int 0, .null, .int 0, .null, .null]), .inl (false, 16, z0), .inl (true, 16, z0), .inl (false, 512, z0)]) rfl (show _ = nI 512 from rfl) (by omega) ⟨by decide, by decide⟩ ?_
  refine V.putF (w' := (wC B a v [.inr (5, [.int 0, .int 0, .int 0, .int 0, .int 0, .ref 20, .ref 21, .ref 22, .null, .null, .null, .null, .null, .null, .int 0, .null, .int 0, .null, .null]), .inl (false, 16, z0), .inl (true, 16, z0), .inl (false, 512, z0)])) rfl rfl rfl ?_
  refine V.run 20 rfl ?_
  refine V.mkI (4, 1056) 23 (wC B a v [.inr (5, [.int 0, .int 0, .int 0, .int 0, .int 0, .ref 20, .ref 21, .ref 22, .null, .null, .null, .null, .null, .null, .int 0, .null, .int 0, .null, .null]), .inl (false, 16, z0), .inl (true, 16, z0), .inl (false, 512, z0), .inl (false, 512, z0)]) rfl (show _ = nI 512 from rfl) (by omega) ⟨by decide, by decide⟩ ?_
  refine V.putF (w' := (wC B a v [.inr (5, [.int 0, .int 0, .int 0, .int 0, .int 0, .ref 20, .ref 21, .ref 22, .ref 23, .null, .null, .null, .null, .null, .int 0, .null, .int 0, .null, .null]), .inl (false, 16, z0), .inl (true, 16, z0), .inl (false, 512, z0), .inl (false, 512, z0)])) rfl rfl rfl ?_
  refine V.run 20 rfl ?_
  refine V.mkZ (5, 1568) 24 (wC B a v [.inr (5, [.int 0, .int 0, .int 0, .int 0, .int 0, .ref 20, .ref 21, .ref 22, .ref 23, .null, .null, .null, .null, .null, .int 0, .null, .int 0, .null, .null]), .inl (false, 16, z0), .inl (true, 16, z0), .inl (false, 512, z0), .inl (false, 512, z0), .inl (true, 512, z0)]) rfl (show _ = nI 512 from rfl) (by omega) ⟨by decide, by decide⟩ ?_
  refine V.putF (w' := (wC B a v [.inr (5, [.int 0, .int 0, .int 0, .int 0, .int 0, .ref 20, .ref 21, .ref 22, .ref 23, .ref 24, .null, .null, .null, .null, .int 0, .null, .int 0, .null, .null]), .inl (false, 16, z0), .inl (true, 16, z0), .inl (false, 512, z0), .inl (false, 512, z0), .inl (true, 512, z0)])) rfl rfl rfl ?_
  refine V.run 20 rfl ?_
  refine V.mkZ (6, 2080) 25 (wC B a v [.inr (5, [.int 0, .int 0, .int 0, .int 0, .int 0, .ref 20, .ref 21, .ref 22, .ref 23, .ref 24, .null, .null, .null, .null, .int 0, .null, .int 0, .null, .null]), .inl (false, 16, z0), .inl (true, 16, z0), .inl (false, 512, z0), .inl (false, 512, z0), .inl (true, 512, z0), .inl (true, 512, z0)]) rfl (show _ = nI 512 from rfl) (by omega) ⟨by decide, by decide⟩ ?_
  refine V.putF (w' := (wC B a v [.inr (5, [.int 0, .int 0, .int 0, .int 0, .int 0, .ref 20, .ref 21, .ref 22, .ref 23, .ref 24, .ref 25, .null, .null, .null, .int 0, .null, .int 0, .null, .null]), .inl (false, 16, z0), .inl (true, 16, z0), .inl (false, 512, z0), .inl (false, 512, z0), .inl (true, 512, z0), .inl (true, 512, z0)])) rfl rfl rfl ?_
  refine V.run 20 rfl ?_
  refine V.mkI (7, 2592) 26 (wC B a v [.inr (5, [.int 0, .int 0, .int 0, .int 0, .int 0, .ref 20, .ref 21, .ref 22, .ref 23, .ref 24, .ref 25, .null, .null, .null, .int 0, .null, .int 0, .null, .null]), .inl (false, 16, z0), .inl (true, 16, z0), .inl (false, 512, z0), .inl (false, 512, z0), .inl (true, 512, z0), .inl (true, 512, z0), .inl (false, 512, z0)]) rfl (show _ = nI 512 from rfl) (by omega) ⟨by decide, by decide⟩ ?_
  refine V.putF (w' := (wC B a v [.inr (5, [.int 0, .int 0, .int 0, .int 0, .int 0, .ref 20, .ref 21, .ref 22, .ref 23, .ref 24, .ref 25, .ref 26, .null, .null, .int 0, .null, .int 0, .null, .null]), .inl (false, 16, z0), .inl (true, 16, z0), .inl (false, 512, z0), .inl (false, 512, z0), .inl (true, 512, z0), .inl (true, 512, z0), .inl (false, 512, z0)])) rfl rfl rfl ?_
  refine V.run 20 rfl ?_
  refine V.mkI (8, 3104) 27 (wC B a v [.inr (5, [.int 0, .int 0, .int 0, .int 0, .int 0, .ref 20, .ref 21, .ref 22, .ref 23, .ref 24, .ref 25, .ref 26, .null, .null, .int 0, .null, .int 0, .null, .null]), .inl (false, 16, z0), .inl (true, 16, z0), .inl (false, 512, z0), .inl (false, 512, z0), .inl (true, 512, z0), .inl (true, 512, z0), .inl (false, 512, z0), .inl (false, 512, z0)]) rfl (show _ = nI 512 from rfl) (by omega) ⟨by decide, by decide⟩ ?_
  refine V.putF (w' := (wC B a v [.inr (5, [.int 0, .int 0, .int 0, .int 0, .int 0, .ref 20, .ref 21, .ref 22, .ref 23, .ref 24, .ref 25, .ref 26, .ref 27, .null, .int 0, .null, .int 0, .null, .null]), .inl (false, 16, z0), .inl (true, 16, z0), .inl (false, 512, z0), .inl (false, 512, z0), .inl (true, 512, z0), .inl (true, 512, z0), .inl (false, 512, z0), .inl (false, 512, z0)])) rfl rfl rfl ?_
  refine V.run 20 rfl ?_
  refine V.mkI (9, 3120) 28 (wC B a v [.inr (5, [.int 0, .int 0, .int 0, .int 0, .int 0, .ref 20, .ref 21, .ref 22, .ref 23, .ref 24, .ref 25, .ref 26, .ref 27, .null, .int 0, .null, .int 0, .null, .null]), .inl (false, 16, z0), .inl (true, 16, z0), .inl (false, 512, z0), .inl (false, 512, z0), .inl (true, 512, z0), .inl (true, 512, z0), .inl (false, 512, z0), .inl (false, 512, z0), .inl (false, 16, z0)]) rfl (show _ = nI 16 from rfl) (by omega) ⟨by decide, by decide⟩ ?_
  refine V.putF (w' := (wC B a v [.inr (5, [.int 0, .int 0, .int 0, .int 0, .int 0, .ref 20, .ref 21, .ref 22, .ref 23, .ref 24, .ref 25, .ref 26, .ref 27, .ref 28, .int 0, .null, .int 0, .null, .null]), .inl (false, 16, z0), .inl (true, 16, z0), .inl (false, 512, z0), .inl (false, 512, z0), .inl (true, 512, z0), .inl (true, 512, z0), .inl (false, 512, z0), .inl (false, 512, z0), .inl (false, 16, z0)])) rfl rfl rfl ?_
  refine V.run 20 rfl ?_
  refine V.mkI (10, 3632) 29 (wC B a v [.inr (5, [.int 0, .int 0, .int 0, .int 0, .int 0, .ref 20, .ref 21, .ref 22, .ref 23, .ref 24, .ref 25, .ref 26, .ref 27, .ref 28, .int 0, .null, .int 0, .null, .null]), .inl (false, 16, z0), .inl (true, 16, z0), .inl (false, 512, z0), .inl (false, 512, z0), .inl (true, 512, z0), .inl (true, 512, z0), .inl (false, 512, z0), .inl (false, 512, z0), .inl (false, 16, z0), .inl (false, 512, z0)]) rfl (show _ = nI 512 from rfl) (by omega) ⟨by decide, by decide⟩ ?_
  refine V.putF (w' := (wC B a v [.inr (5, [.int 0, .int 0, .int 0, .int 0, .int 0, .ref 20, .ref 21, .ref 22, .ref 23, .ref 24, .ref 25, .ref 26, .ref 27, .ref 28, .int 0, .ref 29, .int 0, .null, .null]), .inl (false, 16, z0), .inl (true, 16, z0), .inl (false, 512, z0), .inl (false, 512, z0), .inl (true, 512, z0), .inl (true, 512, z0), .inl (false, 512, z0), .inl (false, 512, z0), .inl (false, 16, z0), .inl (false, 512, z0)])) rfl rfl rfl ?_
  refine V.run 20 rfl ?_
  refine V.mkI (11, 4144) 30 (wC B a v [.inr (5, [.int 0, .int 0, .int 0, .int 0, .int 0, .ref 20, .ref 21, .ref 22, .ref 23, .ref 24, .ref 25, .ref 26, .ref 27, .ref 28, .int 0, .ref 29, .int 0, .null, .null]), .inl (false, 16, z0), .inl (true, 16, z0), .inl (false, 512, z0), .inl (false, 512, z0), .inl (true, 512, z0), .inl (true, 512, z0), .inl (false, 512, z0), .inl (false, 512, z0), .inl (false, 16, z0), .inl (false, 512, z0), .inl (false, 512, z0)]) rfl (show _ = nI 512 from rfl) (by omega) ⟨by decide, by decide⟩ ?_
  refine V.putF (w' := (wC B a v [.inr (5, [.int 0, .int 0, .int 0, .int 0, .int 0, .ref 20, .ref 21, .ref 22, .ref 23, .ref 24, .ref 25, .ref 26, .ref 27, .ref 28, .int 0, .ref 29, .int 0, .ref 30, .null]), .inl (false, 16, z0), .inl (true, 16, z0), .inl (false, 512, z0), .inl (false, 512, z0), .inl (true, 512, z0), .inl (true, 512, z0), .inl (false, 512, z0), .inl (false, 512, z0), .inl (false, 16, z0), .inl (false, 512, z0), .inl (false, 512, z0)])) rfl rfl rfl ?_
  refine V.run 20 rfl ?_
  refine V.mkI (12, 4656) 31 (wC B a v [.inr (5, [.int 0, .int 0, .int 0, .int 0, .int 0, .ref 20, .ref 21, .ref 22, .ref 23, .ref 24, .ref 25, .ref 26, .ref 27, .ref 28, .int 0, .ref 29, .int 0, .ref 30, .null]), .inl (false, 16, z0), .inl (true, 16, z0), .inl (false, 512, z0), .inl (false, 512, z0), .inl (true, 512, z0), .inl (true, 512, z0), .inl (false, 512, z0), .inl (false, 512, z0), .inl (false, 16, z0), .inl (false, 512, z0), .inl (false, 512, z0), .inl (false, 512, z0)]) rfl (show _ = nI 512 from rfl) (by omega) ⟨by decide, by decide⟩ ?_
  refine V.putF (w' := (wC B a v [.inr (5, [.int 0, .int 0, .int 0, .int 0, .int 0, .ref 20, .ref 21, .ref 22, .ref 23, .ref 24, .ref 25, .ref 26, .ref 27, .ref 28, .int 0, .ref 29, .int 0, .ref 30, .ref 31]), .inl (false, 16, z0), .inl (true, 16, z0), .inl (false, 512, z0), .inl (false, 512, z0), .inl (true, 512, z0), .inl (true, 512, z0), .inl (false, 512, z0), .inl (false, 512, z0), .inl (false, 16, z0), .inl (false, 512, z0), .inl (false, 512, z0), .inl (false, 512, z0)])) rfl rfl rfl ?_
  refine V.run 20 rfl ?_
  have loop2 : ∀ {f g : Nat → Int32}, (∀ x, x < 16 → f x = -1) → (∀ x, x < 16 → g x = -1) → ∀ (m i : Nat) (h : Nat → Int32), i + m = 512 → (∀ x, x < i → h x = -1) → V none 85 (fun o w' => o = none ∧ ∃ am vm, w' = wC B a v (mC B am vm) ∧ (∀ x, x < 512 → am 2 x = -1) ∧ (∀ x, x < 16 → am 0 x = -1) ∧ (∀ x, x < 16 → am 8 x = -1) ∧ (∀ i, i ≠ 0 → i ≠ 2 → i ≠ 8 → am i = z0) ∧ ∀ i, vm i = 0) (12, 4656) 168 [(0, .ref 19), (1, .int z), (2, .int (nI i))] [.int (nI 512), .int (nI i)] (wC B a v [.inr (5, [.int 0, .int (nI B), .int 0, .int 0, .int 0, .ref 20, .ref 21, .ref 22, .ref 23, .ref 24, .ref 25, .ref 26, .ref 27, .ref 28, .int 0, .ref 29, .int 0, .ref 30, .ref 31]), .inl (false, 16, f), .inl (true, 16, z0), .inl (false, 512, h), .inl (false, 512, z0), .inl (true, 512, z0), .inl (true, 512, z0), .inl (false, 512, z0), .inl (false, 512, z0), .inl (false, 16, g), .inl (false, 512, z0), .inl (false, 512, z0), .inl (false, 512, z0)]) := by
    intro f g hf hg m
    induction m with
    | zero =>
      intro i h hi hh
      refine V.brT rfl rfl (nI_le (by omega) (by omega)) ?_
      exact V.rv rfl ⟨rfl, setA (setA (setA (fun _ => z0) 0 f) 2 h) 8 g, fun _ => 0, rfl, fun x hx => hh x (by omega), hf, hg, fun i p1 p2 p3 => by rw [setA_n p3, setA_n p2, setA_n p1], fun _ => rfl⟩
    | succ m ih =>
      intro i h hi hh
      refine V.brF rfl rfl (nI_ge (show i < 512 by omega) (by omega)) ?_
      refine V.run 20 rfl ?_
      refine V.iast (w' := (wC B a v [.inr (5, [.int 0, .int (nI B), .int 0, .int 0, .int 0, .ref 20, .ref 21, .ref 22, .ref 23, .ref 24, .ref 25, .ref 26, .ref 27, .ref 28, .int 0, .ref 29, .int 0, .ref 30, .ref 31]), .inl (false, 16, f), .inl (true, 16, z0), .inl (false, 512, (upd h i (-1))), .inl (false, 512, z0), .inl (true, 512, z0), .inl (true, 512, z0), .inl (false, 512, z0), .inl (false, 512, z0), .inl (false, 16, g), .inl (false, 512, z0), .inl (false, 512, z0), .inl (false, 512, z0)])) rfl rfl rfl (show i < 512 by omega) (by omega) rfl ?_
      refine V.run 20 rfl ?_
      rw [nI_add]
      refine ih (i + 1) _ (by omega) (fun x hx => ?_)
      by_cases q : x = i
      · subst q; exact upd_s
      · rw [upd_n q]; exact hh x (by omega)
  have loop1 : ∀ (m i : Nat) (f g : Nat → Int32), i + m = 16 → (∀ x, x < i → f x = -1) → (∀ x, x < i → g x = -1) → V none 85 (fun o w' => o = none ∧ ∃ am vm, w' = wC B a v (mC B am vm) ∧ (∀ x, x < 512 → am 2 x = -1) ∧ (∀ x, x < 16 → am 0 x = -1) ∧ (∀ x, x < 16 → am 8 x = -1) ∧ (∀ i, i ≠ 0 → i ≠ 2 → i ≠ 8 → am i = z0) ∧ ∀ i, vm i = 0) (12, 4656) 139 [(0, .ref 19), (1, .int z), (2, .int (nI i))] [.int (nI 16), .int (nI i)] (wC B a v [.inr (5, [.int 0, .int (nI B), .int 0, .int 0, .int 0, .ref 20, .ref 21, .ref 22, .ref 23, .ref 24, .ref 25, .ref 26, .ref 27, .ref 28, .int 0, .ref 29, .int 0, .ref 30, .ref 31]), .inl (false, 16, f), .inl (true, 16, z0), .inl (false, 512, z0), .inl (false, 512, z0), .inl (true, 512, z0), .inl (true, 512, z0), .inl (false, 512, z0), .inl (false, 512, z0), .inl (false, 16, g), .inl (false, 512, z0), .inl (false, 512, z0), .inl (false, 512, z0)]) := by
    intro m
    induction m with
    | zero =>
      intro i f g hi hf hg
      refine V.brT rfl rfl (nI_le (by omega) (by omega)) ?_
      refine V.run 20 rfl ?_
      exact loop2 (fun x hx => hf x (by omega)) (fun x hx => hg x (by omega)) 512 0 z0 (by omega) (fun x hx => absurd hx (Nat.not_lt_zero x))
    | succ m ih =>
      intro i f g hi hf hg
      refine V.brF rfl rfl (nI_ge (show i < 16 by omega) (by omega)) ?_
      refine V.run 20 rfl ?_
      refine V.iast (w' := (wC B a v [.inr (5, [.int 0, .int (nI B), .int 0, .int 0, .int 0, .ref 20, .ref 21, .ref 22, .ref 23, .ref 24, .ref 25, .ref 26, .ref 27, .ref 28, .int 0, .ref 29, .int 0, .ref 30, .ref 31]), .inl (false, 16, (upd f i (-1))), .inl (true, 16, z0), .inl (false, 512, z0), .inl (false, 512, z0), .inl (true, 512, z0), .inl (true, 512, z0), .inl (false, 512, z0), .inl (false, 512, z0), .inl (false, 16, g), .inl (false, 512, z0), .inl (false, 512, z0), .inl (false, 512, z0)])) rfl rfl rfl (show i < 16 by omega) (by omega) rfl ?_
      refine V.run 20 rfl ?_
      refine V.iast (w' := (wC B a v [.inr (5, [.int 0, .int (nI B), .int 0, .int 0, .int 0, .ref 20, .ref 21, .ref 22, .ref 23, .ref 24, .ref 25, .ref 26, .ref 27, .ref 28, .int 0, .ref 29, .int 0, .ref 30, .ref 31]), .inl (false, 16, (upd f i (-1))), .inl (true, 16, z0), .inl (false, 512, z0), .inl (false, 512, z0), .inl (true, 512, z0), .inl (true, 512, z0), .inl (false, 512, z0), .inl (false, 512, z0), .inl (false, 16, (upd g i (-1))), .inl (false, 512, z0), .inl (false, 512, z0), .inl (false, 512, z0)])) rfl rfl rfl (show i < 16 by omega) (by omega) rfl ?_
      refine V.run 20 rfl ?_
      rw [nI_add]
      refine ih (i + 1) _ _ (by omega) (fun x hx => ?_) (fun x hx => ?_)
      · by_cases q : x = i
        · subst q; exact upd_s
        · rw [upd_n q]; exact hf x (by omega)
      · by_cases q : x = i
        · subst q; exact upd_s
        · rw [upd_n q]; exact hg x (by omega)
  have fin : V none 85 (fun o w' => o = none ∧ ∃ am vm, w' = wC B a v (mC B am vm) ∧ (∀ x, x < 512 → am 2 x = -1) ∧ (∀ x, x < 16 → am 0 x = -1) ∧ (∀ x, x < 16 → am 8 x = -1) ∧ (∀ i, i ≠ 0 → i ≠ 2 → i ≠ 8 → am i = z0) ∧ ∀ i, vm i = 0) (12, 4656) 131 [(0, .ref 19), (1, .int z)] [.int (nI B), .ref 19] (wC B a v [.inr (5, [.int 0, .int 0, .int 0, .int 0, .int 0, .ref 20, .ref 21, .ref 22, .ref 23, .ref 24, .ref 25, .ref 26, .ref 27, .ref 28, .int 0, .ref 29, .int 0, .ref 30, .ref 31]), .inl (false, 16, z0), .inl (true, 16, z0), .inl (false, 512, z0), .inl (false, 512, z0), .inl (true, 512, z0), .inl (true, 512, z0), .inl (false, 512, z0), .inl (false, 512, z0), .inl (false, 16, z0), .inl (false, 512, z0), .inl (false, 512, z0), .inl (false, 512, z0)]) := by
    refine V.putF (w' := (wC B a v [.inr (5, [.int 0, .int (nI B), .int 0, .int 0, .int 0, .ref 20, .ref 21, .ref 22, .ref 23, .ref 24, .ref 25, .ref 26, .ref 27, .ref 28, .int 0, .ref 29, .int 0, .ref 30, .ref 31]), .inl (false, 16, z0), .inl (true, 16, z0), .inl (false, 512, z0), .inl (false, 512, z0), .inl (true, 512, z0), .inl (true, 512, z0), .inl (false, 512, z0), .inl (false, 512, z0), .inl (false, 16, z0), .inl (false, 512, z0), .inl (false, 512, z0), .inl (false, 512, z0)])) rfl rfl rfl ?_
    refine V.run 20 rfl ?_
    exact loop1 16 0 z0 z0 (by omega) (fun x hx => absurd hx (Nat.not_lt_zero x)) (fun x hx => absurd hx (Nat.not_lt_zero x))
  rcases hz with ⟨h, rfl⟩ | ⟨h, rfl⟩ | ⟨rfl, h1, h2⟩
  · refine V.brF rfl rfl (Int32.not_le.mpr h) ?_
    refine V.run 2 rfl ?_
    exact fin
  · refine V.brT rfl rfl (Int32.le_of_lt (i32_tr (show nI 1 < nI 16 by decide) h)) ?_
    refine V.run 20 rfl ?_
    refine V.brF rfl rfl (Int32.not_le.mpr h) ?_
    refine V.run 2 rfl ?_
    exact fin
  · refine V.brT rfl rfl (nI_le h1 (by omega)) ?_
    refine V.run 20 rfl ?_
    refine V.brT rfl rfl (nI_le h2 (by omega)) ?_
    refine V.run 1 rfl ?_
    exact fin
end CM5
