theorem Inv_upKV {B n : Nat} {s : AS} (hI : Inv B n s) {w : Nat} {k z : Int32} (hk : k = 0 ∨ ((k = 1 ∨ k = 2) ∧ ∃ y, z = nI y ∧ safe B s y)) : Inv B n (upKV s w k z) := by
  obtain ⟨i1, i2, i3, i4, i5, i6, i7, i8⟩ := hI
  refine ⟨i1, fun x hx => ?_, i3, i4, i5, i6, i7, i8⟩
  obtain ⟨h1, h2, m, h3, h4, h5, h6⟩ := i2 x hx
  refine ⟨h1, h2, m, h3, h4, h5, fun j hj => ?_⟩
  show upd (sD s) w k (x + 1 + j) = 0 ∨ ((upd (sD s) w k (x + 1 + j) = 1 ∨ upd (sD s) w k (x + 1 + j) = 2) ∧ ∃ y, upd (sV s) w z (x + 1 + j) = nI y ∧ safe B s y)
  by_cases q : x + 1 + j = w
  · rw [q, upd_s, upd_s]; exact hk
  · rw [upd_n q, upd_n q]; exact h6 j hj
theorem Inv_upR {B n : Nat} {s : AS} (hI : Inv B n s) {i : Nat} {z : Int32} (hz : z = -1 ∨ ∃ y, z = nI y ∧ safe B s y) : Inv B n (upR s i z) := by
  obtain ⟨i1, i2, i3, i4, i5, i6, i7, i8⟩ := hI
  refine ⟨i1, i2, fun j hj => ?_, i4, i5, i6, i7, i8⟩
  show upd (sR s) i z j = -1 ∨ ∃ x, upd (sR s) i z j = nI x ∧ safe B s x
  by_cases q : j = i
  · rw [q, upd_s]; exact hz
  · rw [upd_n q]; exact i3 j hj
theorem Inv_set {B n : Nat} {s : AS} (hI : Inv B n s) (root field z : Int32) : Inv B n (opSet s root field z).2 := by
  unfold opSet
  split
  · exact hI
  · exact Inv_upKV hI (Or.inl rfl)
theorem Inv_link {B n : Nat} {s : AS} (hI : Inv B n s) (root field to wk : Int32) : Inv B n (opLink s root field to wk).2 := by
  unfold opLink
  rcases ixN_or (n := 16) (by omega) to with ⟨-, e⟩ | ⟨t, ht, rfl, e⟩
  · rw [e]; exact hI
  · rw [e]
    dsimp only
    split
    · exact hI
    · split
      · exact hI
      · rename_i h0
        refine Inv_upKV hI (Or.inr ⟨?_, (hI.2.2.1 t ht).resolve_left h0⟩)
        split
        · exact Or.inl rfl
        · exact Or.inr rfl
theorem Inv_load {B n : Nat} (hB : B ≤ 16) {s : AS} (hI : Inv B n s) (root frm field : Int32) : Inv B n (opLoad s root frm field).2 := by
  unfold opLoad
  split
  · exact hI
  · split
    · exact hI
    · rename_i q hq
      split
      · exact hI
      · rename_i h0
        obtain ⟨i, m, hi, -, hx, -, hjm, hm, hf, hs, hN, hj⟩ := fl_ok hB hI hq
        obtain ⟨-, -, m', hm', hf', -, hj'⟩ := hI.2.1 q.1 hs
        have : m' = m := nI_inj (by omega) (by omega) (hf'.symm.trans hf)
        subst this
        rcases hj' q.2 hjm with h | ⟨-, h⟩
        · exact absurd h h0
        · exact Inv_upR hI (Or.inr h)
theorem Inv_copy {B n : Nat} {s : AS} (hI : Inv B n s) (root frm : Int32) : Inv B n (opCopy s root frm).2 := by
  unfold opCopy
  rcases ixN_or (n := 16) (by omega) root with ⟨-, e⟩ | ⟨i, hi, rfl, e⟩
  · rw [e]; exact hI
  · rcases ixN_or (n := 16) (by omega) frm with ⟨-, e2⟩ | ⟨j, hj, rfl, e2⟩
    · rw [e, e2]; exact hI
    · rw [e, e2]; exact Inv_upR hI (hI.2.2.1 j hj)
theorem Inv_drop {B n : Nat} {s : AS} (hI : Inv B n s) (root : Int32) : Inv B n (opDrop s root).2 := by
  unfold opDrop
  split
  · exact hI
  · exact Inv_upR hI (Or.inl rfl)
theorem Inv_watch {B n : Nat} (hB : B ≤ 16) {s : AS} (hI : Inv B n s) (root on : Int32) (hon : on = 0 ∨ on = 1) : Inv B n (opWatch s root on).2 := by
  unfold opWatch
  rcases ixN_or (n := 16) (by omega) root with ⟨-, e⟩ | ⟨i, hi, rfl, e⟩
  · rw [e]; exact hI
  · rw [e]
    dsimp only
    rcases hI.2.2.1 i hi with h0 | ⟨x, hx, hs⟩
    · rw [if_pos h0]; exact hI
    · have hxN := hs.1
      rw [hx, if_neg (nI_m1 (by omega)), nI_clamp (by omega)]
      obtain ⟨i1, i2, i3, i4, i5, i6, i7, i8⟩ := hI
      have hw1 : ∀ w, w < 32 * B → upd (sK s).2.1 x on w = 1 → safe B s w := by
        intro w hw h
        by_cases q : w = x
        · rw [q]; exact hs
        · rw [upd_n q] at h; exact i5.2.1 w hw h
      refine ⟨⟨i1.1, i1.2.1, i1.2.2.1, fun w hw => ?_, i1.2.2.2.2⟩, i2, i3, i4, ⟨fun w hw => ?_, hw1, fun y z hy hz h1 h2 h3 => ?_⟩, i6, i7, i8⟩
      · show upd (sK s).2.1 x on w = 0 ∨ upd (sK s).2.1 x on w = 1 ∧ (sK s).1 w ≠ -1
        by_cases q : w = x
        · rw [q, upd_s]
          rcases hon with h | h
          · exact Or.inl h
          · exact Or.inr ⟨h, hs.2.1⟩
        · rw [upd_n q]; exact i1.2.2.2.1 w hw
      · show upd (sK s).2.1 x on w = 0 ∨ upd (sK s).2.1 x on w = 1
        by_cases q : w = x
        · rw [q, upd_s]; exact hon
        · rw [upd_n q]; exact i5.1 w hw
      · exact i7 y z hy hz (hw1 y hy h1).2.1 h3
theorem Inv_next {B n : Nat} {s : AS} (hI : Inv B n s) (root : Int32) : Inv B n (opNext s root).2 := by
  unfold opNext
  split
  · exact hI
  · rename_i i hi
    cases hQ : sQ s with
    | nil => exact hI
    | cons x q =>
      obtain ⟨i1, i2, i3, i4, i5, i6, i7, i8⟩ := hI
      rw [hQ] at i4
      refine ⟨i1, i2, fun j hj => ?_, ⟨(List.nodup_cons.mp i4.1).2, fun y hy => i4.2 y (List.mem_cons_of_mem _ hy)⟩, i5, i6, i7, i8⟩
      show upd (sR s) i (nI x) j = -1 ∨ ∃ y, upd (sR s) i (nI x) j = nI y ∧ safe B s y
      by_cases e : j = i
      · rw [e, upd_s]; exact Or.inr ⟨x, rfl, i4.2 x List.mem_cons_self⟩
      · rw [upd_n e]; exact i3 j hj
theorem Inv_sweep {B n : Nat} {s : AS} (hI : Inv B n s) : Inv B n (opSweep B s).2 := by
  unfold opSweep
  cases h : ff (fun b => decide ((sK s).2.2.2.1 b = 1)) B 0 with
  | none => exact hI
  | some b =>
    obtain ⟨-, hb, hp, -⟩ := ff_some h
    exact hI.le (sw1_le hI.1 (by omega) (of_decide_eq_true hp))
/-- room for an object -/
theorem rmC_ok {B n c : Nat} (hB : B ≤ 16) (hc : c < 4) {s : AS} (hI : Inv B n s) : Inv B n (rmC B c s).1 ∧ (∀ x, (rmC B c s).2 = some x → isC B c (sK (rmC B c s).1) x) ∧ sM (rmC B c s).1 = sM s := by
  unfold rmC
  obtain ⟨l1, c1⟩ := fCell_le (B := B) hc hI.1
  cases h : fCell (sB s) B c (sK s) with
  | mk K o =>
    rw [h] at l1 c1
    have hI1 := hI.le l1
    cases o with
    | some x => exact ⟨hI1, fun y hy => by cases hy; exact c1 x rfl, rfl⟩
    | none =>
      have hI2 := Inv_mrk hB hI1
      obtain ⟨l2, c2⟩ := fCell_le (B := B) hc hI2.1
      exact ⟨hI2.le l2, c2, rfl⟩
theorem Inv_make {B n : Nat} (hB : B ≤ 16) (hn : n ≤ 1000) {s : AS} (hI : Inv B n s) (root m : Int32) : Inv B (n + 1) (opMake B s root m).2 := by
  unfold opMake
  rcases ixN_or (n := 16) (by omega) root with ⟨-, e⟩ | ⟨i, hi, rfl, e⟩
  · rw [e]; exact hI.mono (by omega)
  · rcases ixN_or (n := 16) (by omega) m with ⟨-, e2⟩ | ⟨m, hm, rfl, e2⟩
    · rw [e, e2]; exact hI.mono (by omega)
    · rw [e, e2]
      dsimp only
      obtain ⟨r1, r2, r3⟩ := rmC_ok hB (clsF_lt m) hI
      cases h : rmC B (clsF m) s with
      | mk t o =>
        rw [h] at r1 r2 r3
        cases o with
        | none => exact r1.mono (by omega)
        | some x =>
          obtain ⟨c1, c2, c3, c4, c5⟩ := r2 x rfl
          obtain ⟨i1, i2, i3, i4, i5, ⟨M, hM, hMs, i6⟩, i7, i8⟩ := r1
          have c1 : x < 32 * B := c1
          have c2 : (sK t).1 x = -1 := c2
          have c3 : (sK t).2.2.1 (x / 32) = nI (clsF m) := c3
          have c4 : (sK t).2.2.2.1 (x / 32) = 0 := c4
          have hMs : sM t = nI M := hMs
          have hfit := clsF_fit m (by omega)
          have hcl4 := clsF_lt m
          have hcw := cwd_le _ hcl4
          obtain ⟨ci, hci, hxe⟩ := cell_of hcl4 c5
          have hin := cw_in hcl4 hci
          have hxm : x + 1 + m ≤ 32 * B := by omega
          have hev : x % 2 = 0 := by
            have h2 : ∀ c, c < 4 → cwd c % 2 = 0 := by decide
            have h3 := h2 _ hcl4
            have h4 : ci * cwd (clsF m) % 2 = 0 := by rw [Nat.mul_mod, h3, Nat.mul_zero]
            omega
          have hwx : (sK t).2.1 x = 0 := by
            rcases i1.2.2.2.1 x c1 with q | q
            · exact q
            · exact absurd c2 q.2
          have hmx : sB t x = false := by
            cases hq : sB t x with
            | false => rfl
            | true => exact absurd c2 (i1.2.2.2.2 x c1 hq)
          have hne : ∀ y, safe B t y → y ≠ x := fun y hy q => hy.2.1 (q ▸ c2)
          have hsub : ∀ y, safe B t y → safe B ((upd (sK t).1 x (sM t), (sK t).2), upd (sF t) x (nI m), zr (sD t) x m, zr (sV t) x m, upd (sR t) i (nI x), sQ t, sM t + nI 1, sN t, sB t) y := by
            intro y hy
            refine ⟨hy.1, ?_, hy.2.2⟩
            show upd (sK t).1 x (sM t) y ≠ -1
            rw [upd_n (hne y hy)]; exact hy.2.1
          have hsx : safe B ((upd (sK t).1 x (sM t), (sK t).2), upd (sF t) x (nI m), zr (sD t) x m, zr (sV t) x m, upd (sR t) i (nI x), sQ t, sM t + nI 1, sN t, sB t) x := by
            refine ⟨c1, ?_, Or.inr c4⟩
            show upd (sK t).1 x (sM t) x ≠ -1
            rw [upd_s, hMs]; exact nI_m1 (by omega)
          have hback : ∀ y, safe B ((upd (sK t).1 x (sM t), (sK t).2), upd (sF t) x (nI m), zr (sD t) x m, zr (sV t) x m, upd (sR t) i (nI x), sQ t, sM t + nI 1, sN t, sB t) y → y ≠ x → safe B t y := by
            rintro y ⟨h1, h2, h3⟩ q
            have h2 : upd (sK t).1 x (sM t) y ≠ -1 := h2
            rw [upd_n q] at h2
            exact ⟨h1, h2, h3⟩
          refine ⟨⟨i1.1, i1.2.1, fun w hw hn => ?_, fun w hw => ?_, fun w hw hm => ?_⟩, fun y hy => ?_, fun j hj => ?_, ⟨i4.1, fun y hy => hsub y (i4.2 y hy)⟩, ⟨i5.1, fun w hw h => hsub w (i5.2.1 w hw h), fun y z hy hz h1 h2 h3 => ?_⟩, ⟨M + 1, by omega, by show sM t + nI 1 = _; rw [hMs, nI_add], fun y hy hn => ?_⟩, fun y z hy hz hn he => ?_, fun y hy hn => ?_⟩
          · by_cases q : w = x
            · subst q; exact ⟨clsF m, hcl4, c3, c5⟩
            · have hn : upd (sK t).1 x (sM t) w ≠ -1 := hn
              rw [upd_n q] at hn
              exact i1.2.2.1 w hw hn
          · show (sK t).2.1 w = 0 ∨ (sK t).2.1 w = 1 ∧ upd (sK t).1 x (sM t) w ≠ -1
            by_cases q : w = x
            · subst q; exact Or.inl hwx
            · rw [upd_n q]; exact i1.2.2.2.1 w hw
          · show upd (sK t).1 x (sM t) w ≠ -1
            by_cases q : w = x
            · subst q; rw [hmx] at hm; cases hm
            · rw [upd_n q]; exact i1.2.2.2.2 w hw hm
          · by_cases q : y = x
            · subst q
              refine ⟨c1, hev, m, by omega, upd_s, hxm, fun j hj => Or.inl ?_⟩
              show zr (sD t) y m (y + 1 + j) = 0
              have : (Nat.ble (y + 1) (y + 1 + j) && Nat.ble (y + 1 + j) (y + m)) = true := by
                rw [Bool.and_eq_true, Nat.ble_eq, Nat.ble_eq]; omega
              unfold zr; rw [this]; rfl
            · obtain ⟨h1, h2, m', h3, h4, h5, h6⟩ := i2 y (hback y hy q)
              refine ⟨h1, h2, m', h3, (upd_n q).trans h4, h5, fun j hj => ?_⟩
              show zr (sD t) x m (y + 1 + j) = 0 ∨ ((zr (sD t) x m (y + 1 + j) = 1 ∨ zr (sD t) x m (y + 1 + j) = 2) ∧ ∃ z, zr (sV t) x m (y + 1 + j) = nI z ∧ _)
              unfold zr
              cases hz : (Nat.ble (x + 1) (y + 1 + j) && Nat.ble (y + 1 + j) (x + m)) with
              | true => exact Or.inl rfl
              | false =>
                rcases h6 j hj with q | ⟨q, z, hz, hg⟩
                · exact Or.inl q
                · exact Or.inr ⟨q, z, hz, hsub z hg⟩
          · show upd (sR t) i (nI x) j = -1 ∨ ∃ y, upd (sR t) i (nI x) j = nI y ∧ _
            by_cases q : j = i
            · rw [q, upd_s]; exact Or.inr ⟨x, rfl, hsx⟩
            · rw [upd_n q]
              rcases i3 j hj with q | ⟨y, hy, hg⟩
              · exact Or.inl q
              · exact Or.inr ⟨y, hy, hsub y hg⟩
          · have h3 : upd (sK t).1 x (sM t) y = upd (sK t).1 x (sM t) z := h3
            have g1 := hne y (i5.2.1 y hy h1)
            have g2 := hne z (i5.2.1 z hz h2)
            rw [upd_n g1, upd_n g2] at h3
            exact i5.2.2 y z hy hz h1 h2 h3
          · show ∃ k, k < M + 1 ∧ upd (sK t).1 x (sM t) y = nI k
            by_cases q : y = x
            · rw [q, upd_s]; exact ⟨M, by omega, hMs⟩
            · have hn : upd (sK t).1 x (sM t) y ≠ -1 := hn
              rw [upd_n q] at hn ⊢
              obtain ⟨k, hk, hkk⟩ := i6 y hy hn
              exact ⟨k, by omega, hkk⟩
          · have hn : upd (sK t).1 x (sM t) y ≠ -1 := hn
            have he : upd (sK t).1 x (sM t) y = upd (sK t).1 x (sM t) z := he
            by_cases q1 : y = x
            · by_cases q2 : z = x
              · rw [q1, q2]
              · rw [q1, upd_s, upd_n q2, hMs] at he
                obtain ⟨k, hk, hkk⟩ := i6 z hz (by rw [← he]; exact nI_m1 (by omega))
                have := nI_inj (by omega) (by omega) (he.trans hkk)
                omega
            · rw [upd_n q1] at hn he
              by_cases q2 : z = x
              · rw [q2, upd_s, hMs] at he
                obtain ⟨k, hk, hkk⟩ := i6 y hy hn
                have := nI_inj (by omega) (by omega) (hkk.symm.trans he)
                omega
              · rw [upd_n q2] at he
                exact i7 y z hy hz hn he
          · show ∃ k, k ≤ 15 ∧ upd (sF t) x (nI m) y = nI k ∧ (sK t).2.2.1 (y / 32) = nI (clsF k)
            by_cases q : y = x
            · rw [q, upd_s]; exact ⟨m, by omega, rfl, c3⟩
            · have hn : upd (sK t).1 x (sM t) y ≠ -1 := hn
              rw [upd_n q] at hn
              rw [upd_n q]
              exact i8 y hy hn
