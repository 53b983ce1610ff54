/-! THE CLASS holds the state -/
def RepC (B : Nat) (a : Nat → Nat → Int32) (v : Nat → Int32) (s : AS) : Prop :=
  repK B a v (sK s) ∧ (∀ w, w < 32 * B → (sK s).1 w ≠ -1 → a 1 w = sF s w) ∧ (∀ w, w < 32 * B → a 3 w = sD s w) ∧ (∀ w, w < 32 * B → a 4 w = sV s w) ∧ (∀ i, i < 16 → a 12 i = sR s i) ∧ Ql (sQ s) (a 9) (v 6) ∧ v 0 = sM s ∧ v 1 = sN s ∧ ∀ w, w < 32 * B → mkB (a 6) w = sB s w
/-- an answer that is an int, and the class's world behind it -/
abbrev rC (B : Nat) (r : xW) (q : Int32 × AS) : Option Value → xW → Prop := fun o w' => o = some (.int q.1) ∧ ∃ a' v', w' = wC B a' v' r ∧ RepC B a' v' q.2
theorem fl_ok {B n : Nat} (hB : B ≤ 16) {s : AS} (hI : Inv B n s) {root field : Int32} {q : Nat × Nat} (h : flt s root field = .inr q) : ∃ i m, i < 16 ∧ root = nI i ∧ sR s i = nI q.1 ∧ field = nI q.2 ∧ q.2 < m ∧ m ≤ 15 ∧ sF s q.1 = nI m ∧ safe B s q.1 ∧ q.1 + 1 + m ≤ 32 * B ∧ q.2 < 15 := by
  unfold flt at h
  rcases ixN_or (n := 15) (by omega) field with ⟨-, e⟩ | ⟨j, hj, rfl, e⟩
  · rw [e] at h; cases h
  · rcases ixN_or (n := 16) (by omega) root with ⟨-, e2⟩ | ⟨i, hi, rfl, e2⟩
    · rw [e, e2] at h; cases h
    · rw [e, e2] at h
      dsimp only at h
      rcases hI.2.2.1 i hi with h0 | ⟨x, hx, hs⟩
      · rw [if_pos h0] at h; cases h
      · obtain ⟨hxN, -, m, hm, hf, hN, -⟩ := hI.2.1 x hs
        rw [hx, if_neg (nI_m1 (by omega)), nI_clamp (by omega), hf] at h
        split at h
        · cases h
        · rename_i hle
          cases h
          refine ⟨i, m, hi, rfl, hx, rfl, ?_, hm, hf, hs, hN, hj⟩
          rcases Nat.lt_or_ge j m with q | q
          · exact q
          · exact absurd (nI_le q (by omega)) hle
section CP
variable {B : Nat} {a : Nat → Nat → Int32} {v : Nat → Int32} {r : xW}
theorem hpC {n : Nat} {s : AS} (hI : Inv B n s) (hr : RepC B a v s) : hpOK (32 * B) (a 1) (a 3) (a 4) (safe B s) := by
  intro x hx
  obtain ⟨h1, h2, m, h3, h4, h5, h6⟩ := hI.2.1 x hx
  refine ⟨h1, h2, m, h3, (hr.2.1 x h1 hx.2.1).trans h4, h5, fun j hj => ?_⟩
  rw [hr.2.2.1 _ (by omega), hr.2.2.2.1 _ (by omega)]
  exact h6 j hj
theorem c_rootFault0 {x : Int32} (hx : x < 0 ∨ nI 16 ≤ x) : Tot none kX4_rootFault [.ref 0, .int x] (wC B a v r) (rI (-2) (wC B a v r)) := by
  refine eX4_rootFault ?_
  refine V.run 20 rfl ?_
  refine V.cs rfl (c_isRoot0 hx) rfl ?_
  rintro _ _ ⟨rfl, rfl⟩
  refine V.brF rfl rfl (fun h => h i0_eq0) ?_
  refine V.run 20 rfl ?_
  exact V.ri rfl ⟨rfl, rfl⟩
theorem c_rootFault1 {i : Nat} (hi : i < 16) (h : a 12 i = -1) : Tot none kX4_rootFault [.ref 0, .int (nI i)] (wC B a v r) (rI (-3) (wC B a v r)) := by
  refine eX4_rootFault ?_
  refine V.run 20 rfl ?_
  refine V.cs rfl (c_isRoot1 hi) rfl ?_
  rintro _ _ ⟨rfl, rfl⟩
  refine V.brT rfl rfl i1_ne0 ?_
  refine V.run 20 rfl ?_
  refine V.ialE rfl rfl rfl hi (by omega) h ?_
  refine V.run 20 rfl ?_
  refine V.brF rfl rfl (fun h => h rfl) ?_
  refine V.run 20 rfl ?_
  exact V.ri rfl ⟨rfl, rfl⟩
theorem c_rootFault2 {i x : Nat} (hi : i < 16) (h : a 12 i = nI x) (hx : x < 2 ^ 31) : Tot none kX4_rootFault [.ref 0, .int (nI i)] (wC B a v r) (rI (nI 0) (wC B a v r)) := by
  refine eX4_rootFault ?_
  refine V.run 20 rfl ?_
  refine V.cs rfl (c_isRoot1 hi) rfl ?_
  rintro _ _ ⟨rfl, rfl⟩
  refine V.brT rfl rfl i1_ne0 ?_
  refine V.run 20 rfl ?_
  refine V.ialE rfl rfl rfl hi (by omega) h ?_
  refine V.run 20 rfl ?_
  refine V.brT rfl rfl (nI_m1 hx) ?_
  refine V.run 20 rfl ?_
  exact V.ri rfl ⟨rfl, rfl⟩
theorem c_fieldFault (hB : B ≤ 16) {n : Nat} {s : AS} (hI : Inv B n s) (hr : RepC B a v s) (root field : Int32) : Tot none kX4_fieldFault [.ref 0, .int root, .int field] (wC B a v r) (rI (fcode (flt s root field)) (wC B a v r)) := by
  refine eX4_fieldFault ?_
  unfold flt
  rcases ixN_or (n := 15) (by omega) field with ⟨hbad, e⟩ | ⟨j, hj, rfl, e⟩
  · rw [e]
    refine V.run 20 rfl ?_
    refine V.br rfl rfl (fun h => ?_) (fun h => ?_)
    · refine V.run 20 rfl ?_
      exact V.ri rfl ⟨rfl, rfl⟩
    · refine V.run 20 rfl ?_
      refine V.brF rfl rfl (fun q => absurd (hbad.resolve_left h) (Int32.not_le.mpr q)) ?_
      refine V.run 20 rfl ?_
      exact V.ri rfl ⟨rfl, rfl⟩
  · rw [e]
    refine V.run 20 rfl ?_
    refine V.brF rfl rfl (nI_pos (by omega)) ?_
    refine V.run 20 rfl ?_
    refine V.brT rfl rfl (nI_lt hj (by omega)) ?_
    refine V.run 20 rfl ?_
    rcases ixN_or (n := 16) (by omega) root with ⟨hbad, e2⟩ | ⟨i, hi, rfl, e2⟩
    · rw [e2]
      refine V.cv rfl (c_rootFault0 hbad) rfl rfl ?_
      rintro _ _ ⟨rfl, rfl⟩
      refine V.run 20 rfl ?_
      refine V.brF rfl rfl (by decide) ?_
      refine V.run 20 rfl ?_
      exact V.ri rfl ⟨rfl, rfl⟩
    · rw [e2]
      have h12 := hr.2.2.2.2.1 i hi
      rcases hI.2.2.1 i hi with h0 | ⟨x, hx, hs⟩
      · refine V.cv rfl (c_rootFault1 hi (h12.trans h0)) rfl rfl ?_
        rintro _ _ ⟨rfl, rfl⟩
        refine V.run 20 rfl ?_
        refine V.brF rfl rfl (by decide) ?_
        refine V.run 20 rfl ?_
        exact V.ri rfl ⟨by dsimp only; rw [if_pos h0]; rfl, rfl⟩
      · obtain ⟨hxN, -, m, hm, hf, hN, -⟩ := hI.2.1 x hs
        refine V.cv rfl (c_rootFault2 hi (h12.trans hx) (by omega)) rfl rfl ?_
        rintro _ _ ⟨rfl, rfl⟩
        refine V.run 20 rfl ?_
        refine V.brT rfl rfl i0_eq0 ?_
        refine V.run 20 rfl ?_
        refine V.ialE rfl rfl rfl hi (by omega) (h12.trans hx) ?_
        refine V.cv rfl (c_fieldsOfE hB hxN ((hr.2.1 x hxN hs.2.1).trans hf)) rfl rfl ?_
        rintro _ _ ⟨rfl, rfl⟩
        dsimp only
        rw [hx, if_neg (nI_m1 (by omega)), nI_clamp (by omega), hf]
        refine V.br rfl rfl (fun h => ?_) (fun h => ?_)
        · refine V.run 20 rfl ?_
          exact V.ri rfl ⟨by rw [if_pos h]; rfl, rfl⟩
        · refine V.run 20 rfl ?_
          exact V.ri rfl ⟨by rw [if_neg h]; rfl, rfl⟩
theorem fl_code {B n : Nat} {s : AS} (hI : Inv B n s) (root field : Int32) : (∃ e, flt s root field = .inl e ∧ (e = -2 ∨ e = -3)) ∨ ∃ q, flt s root field = .inr q := by
  unfold flt
  rcases ixN_or (n := 15) (by omega) field with ⟨-, e⟩ | ⟨j, hj, rfl, e⟩
  · rw [e]; exact Or.inl ⟨_, rfl, Or.inl rfl⟩
  · rcases ixN_or (n := 16) (by omega) root with ⟨-, e2⟩ | ⟨i, hi, rfl, e2⟩
    · rw [e, e2]; exact Or.inl ⟨_, rfl, Or.inl rfl⟩
    · rw [e, e2]
      dsimp only
      split
      · exact Or.inl ⟨_, rfl, Or.inr rfl⟩
      · split
        · exact Or.inl ⟨_, rfl, Or.inl rfl⟩
        · exact Or.inr ⟨_, rfl⟩
theorem RepC.upKV {s : AS} (hr : RepC B a v s) (w : Nat) (k z : Int32) : RepC B (uA (uA a 3 w k) 4 w z) v (upKV s w k z) := by
  obtain ⟨h1, h2, h3, h4, h5, h6, h7, h8, h9⟩ := hr
  refine ⟨h1, h2, fun x hx => ?_, fun x hx => ?_, h5, h6, h7, h8, h9⟩
  · show upd (a 3) w k x = upd (sD s) w k x
    by_cases q : x = w
    · subst q; rw [upd_s, upd_s]
    · rw [upd_n q, upd_n q]; exact h3 x hx
  · show upd (a 4) w z x = upd (sV s) w z x
    by_cases q : x = w
    · subst q; rw [upd_s, upd_s]
    · rw [upd_n q, upd_n q]; exact h4 x hx
theorem RepC.upR {s : AS} (hr : RepC B a v s) (i : Nat) (z : Int32) : RepC B (uA a 12 i z) v (upR s i z) := by
  obtain ⟨h1, h2, h3, h4, h5, h6, h7, h8, h9⟩ := hr
  refine ⟨h1, h2, h3, h4, fun x hx => ?_, h6, h7, h8, h9⟩
  show upd (a 12) i z x = upd (sR s) i z x
  by_cases q : x = i
  · subst q; rw [upd_s, upd_s]
  · rw [upd_n q, upd_n q]; exact h5 x hx
theorem c_set (hB : B ≤ 16) {n : Nat} {s : AS} (hI : Inv B n s) (hr : RepC B a v s) (root field z : Int32) : Tot none kX4_set [.ref 0, .int root, .int field, .int z] (wC B a v r) (rC B r (opSet s root field z)) := by
  refine eX4_set ?_
  refine V.run 20 rfl ?_
  refine V.cv rfl (c_fieldFault hB hI hr root field) rfl rfl ?_
  rintro _ _ ⟨rfl, rfl⟩
  unfold opSet
  rcases fl_code hI root field with ⟨e, he, h23⟩ | ⟨q, hq⟩
  · rw [he]
    refine V.run 20 rfl ?_
    refine V.brT rfl rfl (by rcases h23 with rfl | rfl <;> decide) ?_
    refine V.run 20 rfl ?_
    exact V.ri rfl ⟨rfl, a, v, rfl, hr⟩
  · obtain ⟨i, m, hi, rfl, hx, rfl, hjm, hm, hf, hs, hN, hj⟩ := fl_ok hB hI hq
    rw [hq]
    refine V.run 20 rfl ?_
    refine V.brF rfl rfl (fun h => h i0_eq0) ?_
    refine V.run 20 rfl ?_
    refine V.ialE rfl rfl rfl hi (by omega) ((hr.2.2.2.2.1 i hi).trans hx) ?_
    refine V.run 20 rfl ?_
    refine V.cv rfl (c_write hB (show q.1 + 1 + q.2 < 32 * B by omega)) rfl rfl ?_
    rintro _ _ ⟨rfl, rfl⟩
    refine V.run 20 rfl ?_
    exact V.ri rfl ⟨rfl, _, _, rfl, hr.upKV (q.1 + 1 + q.2) (nI 0) z⟩
end CP
