/-! THE CLASS'S WALKS: d = false: marks, d = true: walk -/
def wo (d : Bool) : Nat := bif d then 10 else 7
def oO (d : Bool) : Nat := bif d then 7 else 5
def oR (d : Bool) : Nat := bif d then 8 else 6
def vS (d : Bool) : Nat := bif d then 4 else 2
def vL (d : Bool) : Nat := bif d then 5 else 3
theorem lt_eq {x : Int32} {n m : Nat} (e : x = nI n) (h : n < m) (hm : m < 2 ^ 31) : x < nI m := by rw [e]; exact nI_lt h hm
section CW
variable {B : Nat} {a : Nat → Nat → Int32} {v : Nat → Int32} {r : xW}
theorem c_wsize (d : Bool) : Tot none kX3_size [.ref (wo d)] (wC B a v r) (rI (v (vS d)) (wC B a v r)) := by
  cases d
  · refine eX3_size ?_
    refine V.run 10 rfl ?_
    exact V.ri rfl ⟨rfl, rfl⟩
  · refine eX3_size ?_
    refine V.run 10 rfl ?_
    exact V.ri rfl ⟨rfl, rfl⟩
theorem c_wget (d : Bool) (hB : B ≤ 16) {i n : Nat} (hn : v (vS d) = nI n) (hi : i < n) (hl : n ≤ 16 * B) : Tot none kX3_get [.ref (wo d), .int (nI i)] (wC B a v r) (rI (a (oO d) i) (wC B a v r)) := by
  cases d
  all_goals
    refine eX3_get ?_
    refine V.run 10 rfl ?_
    refine V.brF rfl rfl (nI_pos (by omega)) ?_
    refine V.run 10 rfl ?_
    refine V.brF rfl rfl (fun h => nI_ge hi (by omega) (hn ▸ h)) ?_
    refine V.run 10 rfl ?_
    refine V.brF rfl rfl (nI_ge (show i < 16 * B by omega) (by omega)) ?_
    refine V.run 10 rfl ?_
    refine V.iald rfl rfl rfl (show i < 16 * B by omega) (by omega) ?_
    refine V.run 10 rfl ?_
    exact V.ri rfl ⟨rfl, rfl⟩
theorem c_rankOf (d : Bool) (hB : B ≤ 16) {x : Nat} (hx : x < 32 * B) : Tot none kX3_rankOf [.ref (wo d), .int (nI x)] (wC B a v r) (rI (a (oR d) x) (wC B a v r)) := by
  cases d
  all_goals
    refine eX3_rankOf ?_
    refine V.run 10 rfl ?_
    refine V.brF rfl rfl (nI_pos (by omega)) ?_
    refine V.run 10 rfl ?_
    refine V.brF rfl rfl (nI_ge hx (by omega)) ?_
    refine V.run 10 rfl ?_
    refine V.iald rfl rfl rfl hx (by omega) ?_
    refine V.run 10 rfl ?_
    exact V.ri rfl ⟨rfl, rfl⟩
theorem c_whas (d : Bool) (hB : B ≤ 16) {x : Nat} (hx : x < 32 * B) : Tot none kX3_has [.ref (wo d), .int (nI x)] (wC B a v r) (rI (if a (oR d) x = -1 then nI 0 else nI 1) (wC B a v r)) := by
  refine eX3_has ?_
  cases d
  all_goals
    refine V.run 10 rfl ?_
    refine V.cv rfl (c_rankOf _ hB hx) rfl rfl ?_
    rintro _ _ ⟨rfl, rfl⟩
    refine V.run 10 rfl ?_
    refine V.br rfl rfl (fun h => ?_) (fun h => ?_)
    · refine V.run 10 rfl ?_
      exact V.rz rfl (Or.inl rfl) ⟨by rw [if_pos h], rfl⟩
    · refine V.run 10 rfl ?_
      exact V.rz rfl (Or.inr rfl) ⟨by rw [if_neg h], rfl⟩
theorem c_come0 (d : Bool) : Tot none kX3_come [.ref (wo d), .int (-1)] (wC B a v r) (rN (wC B a v r)) := by
  cases d
  all_goals
    refine eX3_come ?_
    refine V.run 10 rfl ?_
    refine V.brT rfl rfl m1_lt0 ?_
    exact V.rv rfl ⟨rfl, rfl⟩
theorem c_come (d : Bool) (hB : B ≤ 16) {x : Nat} {L : List Nat} (hx : x < 32 * B) (hW : Wk (32 * B) L (a (oO d)) (a (oR d)) (v (vS d))) (hl : L.length ≤ 16 * B) (hg : x ∈ L ∨ L.length < 16 * B) : Tot none kX3_come [.ref (wo d), .int (nI x)] (wC B a v r) (fun o w' => o = none ∧ ∃ f g n, w' = wC B (setA (setA a (oO d) f) (oR d) g) (uV v (vS d) n) r ∧ Wk (32 * B) (ins L x) f g n) := by
  cases d
  all_goals
    refine eX3_come ?_
    refine V.run 10 rfl ?_
    refine V.brF rfl rfl (nI_pos (by omega)) ?_
    refine V.run 10 rfl ?_
    refine V.brF rfl rfl (nI_ge hx (by omega)) ?_
    refine V.run 10 rfl ?_
    refine V.br rfl rfl (fun h => ?_) (fun h => ?_)
    · have hlt : L.length < 16 * B := by
        rcases Nat.lt_or_ge L.length (16 * B) with q | q
        · exact q
        · exact absurd (hW.1 ▸ h) (nI_nlt q (by omega))
      refine V.run 10 rfl ?_
      refine V.iald rfl rfl rfl hx (by omega) ?_
      refine V.run 10 rfl ?_
      refine V.br rfl rfl (fun h2 => ?_) (fun h2 => ?_)
      · have hm : x ∈ L := by
          by_cases q : x ∈ L
          · exact q
          · exact absurd (hW.2.2.1 x hx q) h2
        exact V.rv rfl ⟨rfl, _, _, _, rfl, by rw [ins_id hm]; exact hW⟩
      · have hm : x ∉ L := fun q => h2 (hW.not (by omega) q)
        have hs := hW.1
        refine V.run 10 rfl ?_
        refine V.iast rfl rfl rfl hx (by omega) rfl ?_
        refine V.run 10 rfl ?_
        refine V.iast (j := L.length) rfl rfl hs hlt (by omega) rfl ?_
        refine V.run 10 rfl ?_
        refine V.puti rfl rfl rfl ?_
        have hA := hW.add hx hm
        refine V.rv rfl ⟨rfl, _, _, _, rfl, ?_⟩
        rw [← hs] at hA
        exact hA
    · have hm : x ∈ L := by
        rcases hg with q | q
        · exact q
        · exact absurd (lt_eq hW.1 q (by omega)) h
      exact V.rv rfl ⟨rfl, _, _, _, rfl, by rw [ins_id hm]; exact hW⟩
theorem c_clear (d : Bool) (hB : B ≤ 16) : Tot none kX3_clear [.ref (wo d)] (wC B a v r) (fun o w' => o = none ∧ ∃ g, w' = wC B (setA a (oR d) g) (uV (uV v (vS d) (nI 0)) (vL d) (nI 0)) r ∧ ∀ x, x < 32 * B → g x = -1) := by
  refine eX3_clear ?_
  cases d
  · have loop : ∀ (m i : Nat) (g : Nat → Int32), i + m = 32 * B → (∀ x, x < i → g x = -1) → V none 47 (fun o w' => o = none ∧ ∃ g, w' = wC B (setA a 6 g) (uV (uV v 2 (nI 0)) 3 (nI 0)) r ∧ ∀ x, x < 32 * B → g x = -1) (0, 0) 8 [(0, .ref 7), (1, .int (nI i))] [.int (nI (32 * B)), .int (nI i)] (wC B (setA a 6 g) v r) := by
      intro m
      induction m with
      | zero =>
        intro i g hi hg
        refine V.brT rfl rfl (nI_le (by omega) (by omega)) ?_
        refine V.run 10 rfl ?_
        refine V.puti (w' := wC B (setA a 6 g) (uV v 2 (nI 0)) r) rfl rfl rfl ?_
        refine V.run 10 rfl ?_
        refine V.puti (w' := wC B (setA a 6 g) (uV (uV v 2 (nI 0)) 3 (nI 0)) r) rfl rfl rfl ?_
        exact V.rv rfl ⟨rfl, g, rfl, fun x hx => hg x (by omega)⟩
      | succ m ih =>
        intro i g hi hg
        refine V.brF rfl rfl (nI_ge (show i < 32 * B by omega) (by omega)) ?_
        refine V.run 10 rfl ?_
        refine V.iast (w' := wC B (setA a 6 (upd g i (-1))) v r) rfl rfl rfl (show i < 32 * B by omega) (by omega) rfl ?_
        refine V.run 10 rfl ?_
        rw [nI_add]
        refine ih (i + 1) _ (by omega) (fun x hx => ?_)
        by_cases q : x = i
        · subst q; exact upd_s
        · rw [upd_n q]; exact hg x (by omega)
    refine V.run 10 rfl ?_
    exact loop (32 * B) 0 (a 6) (by omega) (fun x hx => absurd hx (Nat.not_lt_zero x))
  · have loop : ∀ (m i : Nat) (g : Nat → Int32), i + m = 32 * B → (∀ x, x < i → g x = -1) → V none 47 (fun o w' => o = none ∧ ∃ g, w' = wC B (setA a 8 g) (uV (uV v 4 (nI 0)) 5 (nI 0)) r ∧ ∀ x, x < 32 * B → g x = -1) (0, 0) 8 [(0, .ref 10), (1, .int (nI i))] [.int (nI (32 * B)), .int (nI i)] (wC B (setA a 8 g) v r) := by
      intro m
      induction m with
      | zero =>
        intro i g hi hg
        refine V.brT rfl rfl (nI_le (by omega) (by omega)) ?_
        refine V.run 10 rfl ?_
        refine V.puti (w' := wC B (setA a 8 g) (uV v 4 (nI 0)) r) rfl rfl rfl ?_
        refine V.run 10 rfl ?_
        refine V.puti (w' := wC B (setA a 8 g) (uV (uV v 4 (nI 0)) 5 (nI 0)) r) rfl rfl rfl ?_
        exact V.rv rfl ⟨rfl, g, rfl, fun x hx => hg x (by omega)⟩
      | succ m ih =>
        intro i g hi hg
        refine V.brF rfl rfl (nI_ge (show i < 32 * B by omega) (by omega)) ?_
        refine V.run 10 rfl ?_
        refine V.iast (w' := wC B (setA a 8 (upd g i (-1))) v r) rfl rfl rfl (show i < 32 * B by omega) (by omega) rfl ?_
        refine V.run 10 rfl ?_
        rw [nI_add]
        refine ih (i + 1) _ (by omega) (fun x hx => ?_)
        by_cases q : x = i
        · subst q; exact upd_s
        · rw [upd_n q]; exact hg x (by omega)
    refine V.run 10 rfl ?_
    exact loop (32 * B) 0 (a 8) (by omega) (fun x hx => absurd hx (Nat.not_lt_zero x))
end CW
