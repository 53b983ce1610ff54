theorem zr_0 (f : Nat → Int32) (x : Nat) : zr f x 0 = f := by
  funext w
  unfold zr
  have : (Nat.ble (x + 1) w && Nat.ble w (x + 0)) = false := by
    rw [Bool.eq_false_iff]
    simp only [ne_eq, Bool.and_eq_true, Nat.ble_eq]
    omega
  rw [this]; rfl
theorem zr_s (f : Nat → Int32) (x j : Nat) : upd (zr f x j) (x + 1 + j) (nI 0) = zr f x (j + 1) := by
  funext w
  unfold zr
  by_cases q : w = x + 1 + j
  · subst q
    rw [upd_s]
    have : (Nat.ble (x + 1) (x + 1 + j) && Nat.ble (x + 1 + j) (x + (j + 1))) = true := by
      rw [Bool.and_eq_true, Nat.ble_eq, Nat.ble_eq]; omega
    rw [this]; rfl
  · rw [upd_n q]
    have : (Nat.ble (x + 1) w && Nat.ble w (x + j)) = (Nat.ble (x + 1) w && Nat.ble w (x + (j + 1))) := by
      rw [Bool.eq_iff_iff]
      simp only [Bool.and_eq_true, Nat.ble_eq]
      omega
    rw [this]
section CMK
variable {B : Nat} {a : Nat → Nat → Int32} {v : Nat → Int32} {r : xW}
theorem c_place (hB : B ≤ 16) {x m : Nat} {y : Int32} (hx : x + 1 + m ≤ 32 * B) (hm : m ≤ 15) : Tot none kX2_place [.ref 1, .int (nI x), .int y, .int (nI m)] (wC B a v r) (rN (wC B (setA (setA (setA (setA a 0 (upd (a 0) x y)) 1 (upd (a 1) x (nI m))) 3 (zr (a 3) x m)) 4 (zr (a 4) x m)) v r)) := by
  have loop : ∀ (c j : Nat), j + c = m → V none 39 (rN (wC B (setA (setA (setA (setA a 0 (upd (a 0) x y)) 1 (upd (a 1) x (nI m))) 3 (zr (a 3) x m)) 4 (zr (a 4) x m)) v r)) (0, 0) 29 [(0, .ref 1), (1, .int (nI x)), (2, .int y), (3, .int (nI m)), (4, .int (nI j))] [.int (nI m), .int (nI j)] (wC B (setA (setA (setA (setA a 0 (upd (a 0) x y)) 1 (upd (a 1) x (nI m))) 3 (zr (a 3) x j)) 4 (zr (a 4) x j)) v r) := by
    intro c
    induction c with
    | zero =>
      intro j hj
      have e : j = m := by omega
      subst e
      refine V.brT rfl rfl (nI_le (Nat.le_refl _) (by omega)) ?_
      exact V.rv rfl ⟨rfl, rfl⟩
    | succ c ih =>
      intro j hj
      have ih := ih (j + 1) (by omega)
      rw [← zr_s, ← zr_s] at ih
      refine V.brF rfl rfl (nI_ge (show j < m by omega) (by omega)) ?_
      refine V.run 20 rfl ?_
      refine V.cv rfl (c_write hB (show x + 1 + j < 32 * B by omega)) rfl rfl ?_
      rintro _ _ ⟨rfl, rfl⟩
      refine V.run 20 rfl ?_
      rw [nI_add]
      exact ih
  refine eX2_place ?_
  refine V.run 20 rfl ?_
  refine V.cv rfl (c_isWord1 hB (show x < 32 * B by omega)) rfl rfl ?_
  rintro _ _ ⟨rfl, rfl⟩
  refine V.brT rfl rfl i1_ne0 ?_
  refine V.run 20 rfl ?_
  refine V.iast (w' := wC B (uA a 0 x y) v r) rfl rfl rfl (show x < 32 * B by omega) (by omega) rfl ?_
  refine V.run 20 rfl ?_
  refine V.iast (w' := wC B (uA (uA a 0 x y) 1 x (nI m)) v r) rfl rfl rfl (show x < 32 * B by omega) (by omega) rfl ?_
  refine V.run 20 rfl ?_
  have h := loop m 0 (by omega)
  rw [zr_0, zr_0] at h
  exact h
theorem RepC.fr {s : AS} (hr : RepC B a v s) {a' : Nat → Nat → Int32} {v' : Nat → Int32} (hf : frK B a a' v v') {K' : KS} (hk : repK B a' v' K') : RepC B a' v' (K', s.2) := by
  obtain ⟨f1, f2, f3⟩ := hf
  obtain ⟨h1, h2, h3, h4, h5, h6, h7, h8, h9⟩ := hr
  refine ⟨hk, fun w hw hn => ?_, ?_, ?_, ?_, ?_, ?_, ?_, ?_⟩
  · have hn' : a' 0 w ≠ -1 := by rw [hk.1 w hw]; exact hn
    obtain ⟨e1, e2⟩ := f3 w hw hn'
    rw [e1]
    exact h2 w hw (by rw [← h1.1 w hw, ← e2]; exact hn')
  · rw [f1 3 (by omega) (by omega) (by omega) (by omega) (by omega)]; exact h3
  · rw [f1 4 (by omega) (by omega) (by omega) (by omega) (by omega)]; exact h4
  · rw [f1 12 (by omega) (by omega) (by omega) (by omega) (by omega)]; exact h5
  · rw [f1 9 (by omega) (by omega) (by omega) (by omega) (by omega), f2 6 (by omega)]; exact h6
  · rw [f2 0 (by omega)]; exact h7
  · rw [f2 1 (by omega)]; exact h8
  · rw [f1 6 (by omega) (by omega) (by omega) (by omega) (by omega)]; exact h9
theorem c_cellFor (hB : B ≤ 16) {n : Nat} {s : AS} (hI : Inv B n s) (hr : RepC B a v s) {c : Nat} (hc : c < 4) : Tot none kX4_cellFor [.ref 0, .int (nI c)] (wC B a v r) (fun o w' => o = some (.int (oA (rmC B c s).2)) ∧ ∃ a' v', w' = wC B a' v' r ∧ RepC B a' v' (rmC B c s).1) := by
  refine eX4_cellFor ?_
  refine V.run 20 rfl ?_
  refine V.cv rfl (c_findCell hB hr.2.2.2.2.2.2.2.2 hI.1 hr.1 hc) rfl rfl ?_
  rintro _ _ ⟨rfl, a1, v1, rfl, hf1, hk1⟩
  have hr1 := hr.fr hf1 hk1
  obtain ⟨l1, c1⟩ := fCell_le (B := B) hc hI.1
  have hI1 := hI.le l1
  refine V.run 20 rfl ?_
  unfold rmC
  cases h : fCell (sB s) B c (sK s) with
  | mk K o =>
    rw [h] at hr1 hI1 c1
    cases o with
    | some x =>
      have hx := (c1 x rfl).1
      refine V.brT rfl rfl (oA_m1 (by omega)) ?_
      refine V.run 20 rfl ?_
      exact V.ri rfl ⟨rfl, a1, v1, rfl, hr1⟩
    | none =>
      have hI2 := Inv_mrk hB hI1
      refine V.brF rfl rfl (fun h => h rfl) ?_
      refine V.run 20 rfl ?_
      refine V.cv rfl (c_markAllS hB hI1 hr1) rfl rfl ?_
      rintro _ _ ⟨rfl, a2, v2, rfl, hr2, -⟩
      refine V.run 20 rfl ?_
      refine V.cv rfl (c_findCell hB hr2.2.2.2.2.2.2.2.2 hI2.1 hr2.1 hc) rfl rfl ?_
      rintro _ _ ⟨rfl, a3, v3, rfl, hf3, hk3⟩
      refine V.run 20 rfl ?_
      exact V.ri rfl ⟨rfl, a3, v3, rfl, hr2.fr hf3 hk3⟩
theorem c_make (hB : B ≤ 16) {n : Nat} (hn : n ≤ 1000) {s : AS} (hI : Inv B n s) (hr : RepC B a v s) (root m : Int32) : Tot none kX4_make [.ref 0, .int root, .int m] (wC B a v r) (rC B r (opMake B s root m)) := by
  refine eX4_make ?_
  refine V.run 20 rfl ?_
  unfold opMake
  rcases ixN_or (n := 16) (by omega) root with ⟨hbad, e⟩ | ⟨i, hi, rfl, e⟩
  · rw [e]
    refine V.cs rfl (c_isRoot0 hbad) rfl ?_
    rintro _ _ ⟨rfl, rfl⟩
    refine V.brT rfl rfl i0_eq0 ?_
    refine V.run 20 rfl ?_
    exact V.ri rfl ⟨rfl, a, v, rfl, hr⟩
  · rw [e]
    refine V.cs rfl (c_isRoot1 hi) rfl ?_
    rintro _ _ ⟨rfl, rfl⟩
    refine V.brF rfl rfl i1_ne0 ?_
    refine V.run 20 rfl ?_
    rcases ixN_or (n := 16) (by omega) m with ⟨hbad, e2⟩ | ⟨m, hm, rfl, e2⟩
    · rw [e2]
      refine V.br rfl rfl (fun h => ?_) (fun h => ?_)
      · refine V.run 20 rfl ?_
        exact V.ri rfl ⟨rfl, a, v, rfl, hr⟩
      · refine V.run 20 rfl ?_
        have h6 := hbad.resolve_left h
        refine V.brF rfl rfl (fun q => by
          rw [Int32.le_iff_toInt_le] at h6 q
          rw [nI_toInt (by omega)] at h6 q
          omega) ?_
        refine V.run 20 rfl ?_
        exact V.ri rfl ⟨rfl, a, v, rfl, hr⟩
    · rw [e2]
      dsimp only
      obtain ⟨M, hM, hMs, -⟩ := hI.2.2.2.2.2.1
      refine V.brF rfl rfl (nI_pos (by omega)) ?_
      refine V.run 20 rfl ?_
      refine V.brT rfl rfl (nI_le (by omega) (by omega)) ?_
      refine V.run 20 rfl ?_
      refine V.brT rfl rfl (lt_eq (hr.2.2.2.2.2.2.1.trans hMs) (show M < 2000 by omega) (by omega)) ?_
      refine V.run 20 rfl ?_
      refine V.cs rfl (c_classFor (show m ≤ 15 by omega)) rfl ?_
      rintro _ _ ⟨rfl, rfl⟩
      refine V.cv rfl (c_cellFor hB hI hr (clsF_lt m)) rfl rfl ?_
      rintro _ _ ⟨rfl, a1, v1, rfl, hr1⟩
      obtain ⟨hI1, hc1, hM1⟩ := rmC_ok hB (clsF_lt m) hI
      refine V.run 20 rfl ?_
      cases h : rmC B (clsF m) s with
      | mk t o =>
        rw [h] at hr1 hI1 hc1 hM1
        cases o with
        | none =>
          refine V.brF rfl rfl (fun h => h rfl) ?_
          refine V.run 20 rfl ?_
          exact V.ri rfl ⟨rfl, a1, v1, rfl, hr1⟩
        | some x =>
          obtain ⟨c1, c2, c3, c4, c5⟩ := hc1 x rfl
          have hfit := clsF_fit m (by omega)
          have hcl4 := clsF_lt m
          obtain ⟨ci, hci, hxe⟩ := cell_of hcl4 c5
          have hin := cw_in hcl4 hci
          have hxm : x + 1 + m ≤ 32 * B := by omega
          obtain ⟨h1, h2, h3, h4, h5, h6, h7, h8, h9⟩ := hr1
          have h7 : v1 0 = sM t := h7
          refine V.brT rfl rfl (oA_m1 (by omega)) ?_
          refine V.run 20 rfl ?_
          refine V.puti (w' := wC B a1 (uV v1 0 (v1 0 + nI 1)) r) rfl rfl rfl ?_
          refine V.run 20 rfl ?_
          refine V.cv rfl (c_place hB hxm (by omega)) rfl rfl ?_
          rintro _ _ ⟨rfl, rfl⟩
          refine V.run 20 rfl ?_
          refine V.iast (j := i) rfl rfl rfl hi (by omega) rfl ?_
          refine V.run 20 rfl ?_
          refine V.ri rfl ⟨congrArg (fun z => some (Value.int z)) h7, setA (setA (setA (setA (setA a1 0 (upd (a1 0) x (v1 0))) 1 (upd (a1 1) x (nI m))) 3 (zr (a1 3) x m)) 4 (zr (a1 4) x m)) 12 (upd (a1 12) i (nI x)), uV v1 0 (v1 0 + nI 1), rfl, ⟨fun w hw => ?_, h1.2.1, h1.2.2.1, h1.2.2.2.1, h1.2.2.2.2⟩, fun w hw hn => ?_, fun w hw => ?_, fun w hw => ?_, fun j hj => ?_, h6, ?_, h8, h9⟩
          · show upd (a1 0) x (v1 0) w = upd (sK t).1 x (sM t) w
            by_cases q : w = x
            · rw [q, upd_s, upd_s, h7]
            · rw [upd_n q, upd_n q]; exact h1.1 w hw
          · show upd (a1 1) x (nI m) w = upd (sF t) x (nI m) w
            by_cases q : w = x
            · rw [q, upd_s, upd_s]
            · have hn : upd (sK t).1 x (sM t) w ≠ -1 := hn
              rw [upd_n q] at hn
              rw [upd_n q, upd_n q]; exact h2 w hw hn
          · show zr (a1 3) x m w = zr (sD t) x m w
            unfold zr; rw [h3 w hw]
          · show zr (a1 4) x m w = zr (sV t) x m w
            unfold zr; rw [h4 w hw]
          · show upd (a1 12) i (nI x) j = upd (sR t) i (nI x) j
            by_cases q : j = i
            · rw [q, upd_s, upd_s]
            · rw [upd_n q, upd_n q]; exact h5 j hj
          · show v1 0 + nI 1 = sM t + nI 1
            rw [h7]
end CMK
