theorem fol_pre (T : Nat → List Nat) : ∀ (n i : Nat) (L : List Nat), ∃ M, fol T n i L = L ++ M
  | 0, _, L => ⟨[], by simp [fol]⟩
  | n + 1, i, L => by
    unfold fol
    split
    · obtain ⟨M1, h1⟩ := insL_pre (T (L.getD i 0)) L
      obtain ⟨M2, h2⟩ := fol_pre T n (i + 1) (insL L (T (L.getD i 0)))
      exact ⟨M1 ++ M2, by rw [h2, h1, List.append_assoc]⟩
    · exact ⟨[], by simp⟩
theorem fol_sub {T : Nat → List Nat} {n i : Nat} {L : List Nat} {y : Nat} (h : y ∈ L) : y ∈ fol T n i L := by
  obtain ⟨M, hM⟩ := fol_pre T n i L
  rw [hM]
  exact List.mem_append_left _ h
theorem hpOK_lo {N : Nat} {fd kd vl : Nat → Int32} {G : Nat → Prop} (h : hpOK N fd kd vl G) (L : List Nat) : hpOK N fd (loK fd kd vl L) (loV fd kd vl L) G := by
  intro x hx
  obtain ⟨h1, h2, m, h3, h4, h5, h6⟩ := h x hx
  refine ⟨h1, h2, m, h3, h4, h5, fun j hj => ?_⟩
  unfold loK loV cfK cfV
  cases hc : (inF fd L (x + 1 + j) && cutb kd vl L (x + 1 + j)) with
  | true => exact Or.inl rfl
  | false => exact h6 j hj
/-! marking, purely -/
def mL1 (B : Nat) (fd kd vl rt : Nat → Int32) (Qs : List Nat) : List Nat := fol (tgs fd kd vl) (16 * B + 1) 0 (heldL rt Qs)
def mT (B : Nat) (nm fd wt kd vl rt : Nat → Int32) (Qs : List Nat) : List Nat := sq nm wt (mL1 B fd kd vl rt Qs) (16 * B)
def mW (B : Nat) (fd wt kd vl rt : Nat → Int32) (Qs : List Nat) : Nat → Int32 := wtQ wt (mL1 B fd kd vl rt Qs) (16 * B)
def mK1 (B : Nat) (fd kd vl rt : Nat → Int32) (Qs : List Nat) : Nat → Int32 := loK fd kd vl (mL1 B fd kd vl rt Qs)
def mV1 (B : Nat) (fd kd vl rt : Nat → Int32) (Qs : List Nat) : Nat → Int32 := loV fd kd vl (mL1 B fd kd vl rt Qs)
def mL3 (B : Nat) (nm fd wt kd vl rt : Nat → Int32) (Qs : List Nat) : List Nat := fol (tgs fd (mK1 B fd kd vl rt Qs) (mV1 B fd kd vl rt Qs)) (16 * B + 1 - (mL1 B fd kd vl rt Qs).length) (mL1 B fd kd vl rt Qs).length (insL (mL1 B fd kd vl rt Qs) (mT B nm fd wt kd vl rt Qs))
def mK2 (B : Nat) (nm fd wt kd vl rt : Nat → Int32) (Qs : List Nat) : Nat → Int32 := loK fd (mK1 B fd kd vl rt Qs) (mV1 B fd kd vl rt Qs) (mL3 B nm fd wt kd vl rt Qs)
def mV2 (B : Nat) (nm fd wt kd vl rt : Nat → Int32) (Qs : List Nat) : Nat → Int32 := loV fd (mK1 B fd kd vl rt Qs) (mV1 B fd kd vl rt Qs) (mL3 B nm fd wt kd vl rt Qs)
section CM
variable {B : Nat} {a : Nat → Nat → Int32} {v : Nat → Int32} {r : xW}
theorem c_markAll (hB : B ≤ 16) {G : Nat → Prop} (hp : hpOK (32 * B) (a 1) (a 3) (a 4) G) (hr : rtOK (a 12) G) (hwt : wtOK (32 * B) (a 0) (a 2) G) {Qs : List Nat} (hq : Ql Qs (a 9) (v 6)) (hqG : Wg B G Qs) :
    Tot none kX4_markAll [.ref 0] (wC B a v r) (fun o w' => o = none ∧ ∃ fq nq f g n u,
      w' = wC B (setA (setA (setA (setA (setA (setA (setA a 2 (mW B (a 1) (a 2) (a 3) (a 4) (a 12) Qs)) 3 (mK2 B (a 0) (a 1) (a 2) (a 3) (a 4) (a 12) Qs)) 4 (mV2 B (a 0) (a 1) (a 2) (a 3) (a 4) (a 12) Qs)) 5 f) 6 g) 9 fq) 11 u) (uV (uV (uV (uV v 1 (v 1 + nI 1)) 2 n) 3 n) 6 nq) r ∧
      Ql (Qs ++ mT B (a 0) (a 1) (a 2) (a 3) (a 4) (a 12) Qs) fq nq ∧ Wg B G (Qs ++ mT B (a 0) (a 1) (a 2) (a 3) (a 4) (a 12) Qs) ∧ Wk (32 * B) (mL3 B (a 0) (a 1) (a 2) (a 3) (a 4) (a 12) Qs) f g n ∧ Wg B G (mL3 B (a 0) (a 1) (a 2) (a 3) (a 4) (a 12) Qs) ∧ ∀ b, b < B → u b = if a 10 b = -1 then 0 else 1) := by
  refine eX4_markAll ?_
  refine V.run 20 rfl ?_
  refine V.cv rfl (c_clear false hB) rfl rfl ?_
  rintro _ _ ⟨rfl, g0, rfl, hg0⟩
  refine V.run 20 rfl ?_
  refine V.cv rfl (c_comeToHeld false hB (a := setA a 6 g0) hp hr hq hqG (Wk.nil hg0)) rfl rfl ?_
  rintro _ _ ⟨rfl, f1, g1, n1, rfl, hW1, hG1⟩
  refine V.run 20 rfl ?_
  refine V.cv rfl (c_spread false hB (L := heldL (a 12) Qs) (i := 0) (a := setA (setA (setA a 6 g0) 5 f1) 6 g1) hp hW1 hG1 rfl (Nat.zero_le _)) rfl rfl ?_
  rintro _ _ ⟨rfl, f2, g2, n2, rfl, hW2, hG2⟩
  have hW2 : Wk (32 * B) (mL1 B (a 1) (a 3) (a 4) (a 12) Qs) f2 g2 n2 := hW2
  have hG2 : Wg B G (mL1 B (a 1) (a 3) (a 4) (a 12) Qs) := hG2
  refine V.run 20 rfl ?_
  refine V.cv rfl (c_cutWeakFields hB (G := G) (L := mL1 B (a 1) (a 3) (a 4) (a 12) Qs) (by exact hp) (by exact hW2) hG2) rfl rfl ?_
  rintro _ _ ⟨rfl, rfl⟩
  refine V.run 20 rfl ?_
  have hp1 := hpOK_lo hp (mL1 B (a 1) (a 3) (a 4) (a 12) Qs)
  refine V.cv rfl (c_queueWatched hB (G := G) (Q0 := Qs) (L := mL1 B (a 1) (a 3) (a 4) (a 12) Qs) (by exact hp1) (by exact hwt) (by exact hq) hqG (fun y hy => fol_sub (insL_mem.mpr (Or.inr hy))) (by exact hW2) hG2) rfl rfl ?_
  rintro _ _ ⟨rfl, fq, nq, f3, g3, n3, rfl, hq3, hqG3, hW3, hG3⟩
  refine V.run 20 rfl ?_
  refine V.cv rfl (c_spread false hB (G := G) (L := insL (mL1 B (a 1) (a 3) (a 4) (a 12) Qs) (mT B (a 0) (a 1) (a 2) (a 3) (a 4) (a 12) Qs)) (i := (mL1 B (a 1) (a 3) (a 4) (a 12) Qs).length) (by exact hp1) (by exact hW3) hG3 (by exact hW2.1) (by
    obtain ⟨M, hM⟩ := insL_pre (mT B (a 0) (a 1) (a 2) (a 3) (a 4) (a 12) Qs) (mL1 B (a 1) (a 3) (a 4) (a 12) Qs)
    rw [hM, List.length_append]
    omega)) rfl rfl ?_
  rintro _ _ ⟨rfl, f4, g4, n4, rfl, hW4, hG4⟩
  have hW4 : Wk (32 * B) (mL3 B (a 0) (a 1) (a 2) (a 3) (a 4) (a 12) Qs) f4 g4 n4 := hW4
  have hG4 : Wg B G (mL3 B (a 0) (a 1) (a 2) (a 3) (a 4) (a 12) Qs) := hG4
  refine V.run 20 rfl ?_
  refine V.cv rfl (c_cutWeakFields hB (G := G) (L := mL3 B (a 0) (a 1) (a 2) (a 3) (a 4) (a 12) Qs) (by exact hp1) (by exact hW4) hG4) rfl rfl ?_
  rintro _ _ ⟨rfl, rfl⟩
  refine V.run 20 rfl ?_
  refine V.cv rfl (c_unsweepAll hB) rfl rfl ?_
  rintro _ _ ⟨rfl, u, rfl, hu⟩
  refine V.run 20 rfl ?_
  refine V.puti rfl rfl rfl ?_
  exact V.rv rfl ⟨rfl, fq, nq, f4, g4, n4, u, rfl, hq3, hqG3, hW4, hG4, hu⟩
end CM
