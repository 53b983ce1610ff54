/-! THE START, and THE LAW's walk -/
def s00 : AS := ((fun _ => -1, fun _ => 0, fun _ => -1, fun _ => 0, 0), fun _ => 0, fun _ => 0, fun _ => 0, fun _ => -1, [], 0, 0, fun _ => false)
theorem Inv_00 (B : Nat) : Inv B 0 s00 := by
  have hn : ∀ x, ¬ safe B s00 x := fun x h => h.2.1 rfl
  refine ⟨⟨fun b _ => Or.inl rfl, fun b _ => Or.inl rfl, fun w _ h => absurd rfl h, fun w _ => Or.inl rfl, fun w _ h => by cases h⟩, fun x hx => absurd hx (hn x), fun i _ => Or.inl rfl, ⟨List.nodup_nil, fun y hy => by cases hy⟩, ⟨fun w _ => Or.inl rfl, fun w _ h => absurd h (show ¬ (0 : Int32) = 1 by decide), fun x y _ _ h => absurd h (show ¬ (0 : Int32) = 1 by decide)⟩, ⟨0, Nat.le_refl _, rfl, fun x _ h => absurd rfl h⟩, fun x y _ _ h => absurd rfl h, fun x _ h => absurd rfl h⟩
/-- the class's arrays behind its constructor -/
def aC0 (f1 f2 f3 f4 f5 : Nat → Int32) : Nat → Nat → Int32 := setA (setA (setA (setA (setA (fun _ => z0) 0 f1) 6 f2) 8 f3) 10 f4) 12 f5
theorem RepC_00 {B : Nat} {f1 f2 f3 f4 f5 : Nat → Int32} (h1 : ∀ x, x < 32 * B → f1 x = -1) (h2 : ∀ x, x < 32 * B → f2 x = -1) (h4 : ∀ x, x < B → f4 x = -1) (h5 : ∀ x, x < 16 → f5 x = -1) : RepC B (aC0 f1 f2 f3 f4 f5) (fun _ => 0) s00 := by
  refine ⟨⟨h1, fun _ _ => rfl, h4, fun _ _ => rfl, rfl⟩, fun w _ h => absurd rfl h, fun _ _ => rfl, fun _ _ => rfl, h5, ⟨rfl, fun i x h => by have h : ([] : List Nat)[i]? = some x := h; simp at h⟩, rfl, rfl, fun w hw => ?_⟩
  show mkB f2 w = false
  unfold mkB
  rw [h2 w hw]
  rfl
theorem RepM_00 {B : Nat} (hB : B ≤ 16) {am : Nat → Nat → Int32} {vm : Nat → Int32} (h1 : ∀ x, x < 512 → am 2 x = -1) (h2 : ∀ x, x < 16 → am 0 x = -1) (h3 : ∀ x, x < 16 → am 8 x = -1) (h4 : ∀ i, i ≠ 0 → i ≠ 2 → i ≠ 8 → am i = z0) (h5 : ∀ i, vm i = 0) : RepM B am vm s00 := by
  refine ⟨⟨fun w hw => h1 w (by omega), fun w _ => by rw [h4 5 (by omega) (by omega) (by omega)]; rfl, fun b hb => h2 b (by omega), fun b _ => by rw [h4 1 (by omega) (by omega) (by omega)]; rfl, h5 3⟩, fun w _ h => absurd rfl h, fun w _ => by rw [h4 6 (by omega) (by omega) (by omega)]; rfl, fun w _ => by rw [h4 7 (by omega) (by omega) (by omega)]; rfl, h3, ⟨h5 4, fun i x h => by have h : ([] : List Nat)[i]? = some x := h; simp at h⟩, h5 1, h5 2, fun w _ => by rw [h4 4 (by omega) (by omega) (by omega)]; rfl⟩
theorem lg_cmp_self (x : Int64) : lg_cmp x x = 0 := by
  unfold lg_cmp
  simp
theorem l_cell {L : Nat} {xs : Nat → Int32} (hL : L < 2 ^ 31) {w : xW} : Tot (some (L, xs)) kL_cell [.ref 999, .int (nI 0)] w (rI (if 0 < L then xs 0 else nI 0) w) := by
  refine eL_cell ?_
  refine V.run 2 rfl ?_
  refine V.slen rfl ?_
  by_cases h : 0 < L
  · rw [if_pos h]
    refine V.brF rfl rfl (nI_ge h hL) ?_
    refine V.run 20 rfl ?_
    refine V.sld (j := 0) rfl rfl h hL ?_
    refine V.run 20 rfl ?_
    exact V.ri rfl ⟨rfl, rfl⟩
  · rw [if_neg h]
    refine V.brT rfl rfl (nI_le (by omega) (by omega)) ?_
    refine V.run 20 rfl ?_
    exact V.ri rfl ⟨rfl, rfl⟩
theorem l_B (z : Int32) : ∃ B, (1 ≤ B ∧ B ≤ 16) ∧ ((z < nI 1 ∧ B = 1) ∨ (nI 16 < z ∧ B = 16) ∨ (z = nI B ∧ 1 ≤ B ∧ B ≤ 16)) := by
  by_cases h1 : z < nI 1
  · exact ⟨1, by omega, Or.inl ⟨h1, rfl⟩⟩
  · by_cases h2 : nI 16 < z
    · exact ⟨16, by omega, Or.inr (Or.inl ⟨h2, rfl⟩)⟩
    · rcases pk_ix z (n := 17) (by omega) with h | h | ⟨j, hj, rfl⟩
      · exact absurd (i32_tr h (show (0 : Int32) < nI 1 by decide)) h1
      · exact absurd (i32_tl (show nI 16 < nI 17 by decide) h) h2
      · have h3 : 1 ≤ j := by
          rcases Nat.lt_or_ge j 1 with q | q
          · exact absurd (nI_lt q (by omega)) h1
          · exact q
        exact ⟨j, by omega, Or.inr (Or.inr ⟨rfl, h3, by omega⟩)⟩
set_option maxRecDepth 100000 in
theorem law_loop {B L : Nat} {xs : Nat → Int32} (hB : B ≤ 16) (hB1 : 1 ≤ B) (hL : L ≤ 2561) : ∀ (m j i : Nat) (s : AS) (a : Nat → Nat → Int32) (v : Nat → Int32) (am : Nat → Nat → Int32) (vm : Nat → Int32), i = 5 * j + 1 → i ≤ 3000 → L ≤ i + 5 * m → Inv B j s → RepC B a v s → RepM B am vm s →
    V (some (L, xs)) 124 (fun o _ => o = some (.int (nI 1))) (32, 9103) 30 [(0, .ref 999), (1, .ref 0), (2, .ref 19), (3, .int (nI i))] [.ref 999, .int (nI i)] (wC B a v (mC B am vm)) := by
  have out : ∀ (i : Nat) (a : Nat → Nat → Int32) (v : Nat → Int32) (am : Nat → Nat → Int32) (vm : Nat → Int32), 1 ≤ i → i < 2 ^ 30 → ¬ i + 5 ≤ L → V (some (L, xs)) 124 (fun o _ => o = some (.int (nI 1))) (32, 9103) 30 [(0, .ref 999), (1, .ref 0), (2, .ref 19), (3, .int (nI i))] [.ref 999, .int (nI i)] (wC B a v (mC B am vm)) := by
    intro i a v am vm hi hi2 hn
    refine V.slen rfl ?_
    refine V.run 20 rfl ?_
    refine V.brT rfl rfl (show nI L - nI 5 < nI i from ?_) ?_
    · by_cases h5 : 5 ≤ L
      · rw [pk_sub h5]; exact nI_lt (by omega) (by omega)
      · exact i32_tl (pk_sneg (by omega) (by omega)) (nI_pos' (by omega))
    · refine V.run 20 rfl ?_
      exact V.rz rfl (Or.inr rfl) rfl
  intro m
  induction m with
  | zero =>
    intro j i s a v am vm hij hi3 hm hI hC hM
    exact out i a v am vm (by omega) (by omega) (by omega)
  | succ m ih =>
    intro j i s a v am vm hij hi3 hm hI hC hM
    by_cases hgo : i + 5 ≤ L
    · have hn : j ≤ 1000 := by omega
      have hi30 : i < 2 ^ 30 := by omega
      have nxt : ∀ s' a' v' am' vm', Inv B (j + 1) s' → RepC B a' v' s' → RepM B am' vm' s' → V (some (L, xs)) 124 (fun o _ => o = some (.int (nI 1))) (32, 9103) 705 [(0, .ref 999), (1, .ref 0), (2, .ref 19), (3, .int (nI i))] [] (wC B a' v' (mC B am' vm')) := by
        intro s' a' v' am' vm' h1 h2 h3
        refine V.run 20 rfl ?_
        rw [nI_add]
        exact ih (j + 1) (i + 5) s' a' v' am' vm' (by omega) (by omega) (by omega) h1 h2 h3
      refine V.slen rfl ?_
      refine V.run 20 rfl ?_
      refine V.brF rfl rfl (show ¬ nI L - nI 5 < nI i from ?_) ?_
      · rw [pk_sub (by omega)]; exact nI_nlt (by omega) (by omega)
      refine V.run 20 rfl ?_
      refine V.sld (j := i) rfl rfl (by omega) (by omega) ?_
      refine V.run 20 rfl ?_
      obtain ⟨t, ht, et⟩ := pk_andE (xs i) (m := nI 31) 5 (by decide)
      rw [et]
      rcases (show t = 0 ∨ t = 1 ∨ t = 2 ∨ t = 3 ∨ t = 4 ∨ t = 5 ∨ t = 6 ∨ t = 7 ∨ t = 8 ∨ t = 9 ∨ t = 10 ∨ t = 11 ∨ t = 12 ∨ t = 13 ∨ t = 14 ∨ t = 15 ∨ t = 16 ∨ t = 17 ∨ 18 ≤ t by omega) with rfl | rfl | rfl | rfl | rfl | rfl | rfl | rfl | rfl | rfl | rfl | rfl | rfl | rfl | rfl | rfl | rfl | rfl | h18
      · refine V.tableIn (tgt := 128) rfl (by decide) (by decide) rfl rfl ?_
        refine V.run 20 rfl ?_
        refine V.sld (j := i + 1) rfl (nI_add _ _) (by omega) (by omega) ?_
        refine V.run 20 rfl ?_
        refine V.sld (j := i + 2) rfl (nI_add _ _) (by omega) (by omega) ?_
        refine V.cv rfl (c_make hB hn hI hC _ _ ) rfl rfl ?_
        rintro _ _ ⟨rfl, a1, v1, rfl, hC1⟩
        refine V.run 20 rfl ?_
        refine V.sld (j := i + 1) rfl (nI_add _ _) (by omega) (by omega) ?_
        refine V.run 20 rfl ?_
        refine V.sld (j := i + 2) rfl (nI_add _ _) (by omega) (by omega) ?_
        refine V.cv rfl (m_make (cc := cC B a1 v1) hB hn hI hM _ _ ) rfl rfl ?_
        rintro _ _ ⟨rfl, am1, vm1, rfl, hM1⟩
        refine V.brT rfl rfl rfl ?_
        exact nxt _ _ _ _ _ (Inv_make hB hn hI _ _) hC1 hM1
      · refine V.tableIn (tgt := 161) rfl (by decide) (by decide) rfl rfl ?_
        refine V.run 20 rfl ?_
        refine V.sld (j := i + 1) rfl (nI_add _ _) (by omega) (by omega) ?_
        refine V.run 20 rfl ?_
        refine V.sld (j := i + 2) rfl (nI_add _ _) (by omega) (by omega) ?_
        refine V.run 20 rfl ?_
        refine V.sld (j := i + 3) rfl (nI_add _ _) (by omega) (by omega) ?_
        refine V.cv rfl (c_set hB hI hC _ _ _ ) rfl rfl ?_
        rintro _ _ ⟨rfl, a1, v1, rfl, hC1⟩
        refine V.run 20 rfl ?_
        refine V.sld (j := i + 1) rfl (nI_add _ _) (by omega) (by omega) ?_
        refine V.run 20 rfl ?_
        refine V.sld (j := i + 2) rfl (nI_add _ _) (by omega) (by omega) ?_
        refine V.run 20 rfl ?_
        refine V.sld (j := i + 3) rfl (nI_add _ _) (by omega) (by omega) ?_
        refine V.cv rfl (m_set (cc := cC B a1 v1) hB hI hM _ _ _ ) rfl rfl ?_
        rintro _ _ ⟨rfl, am1, vm1, rfl, hM1⟩
        refine V.brT rfl rfl rfl ?_
        exact nxt _ _ _ _ _ ((Inv_set hI _ _ _).mono (by omega)) hC1 hM1
      · refine V.tableIn (tgt := 204) rfl (by decide) (by decide) rfl rfl ?_
        by_cases hb : xs (i + 4) = 0
        · refine V.run 20 rfl ?_
          refine V.sld (j := i + 1) rfl (nI_add _ _) (by omega) (by omega) ?_
          refine V.run 20 rfl ?_
          refine V.sld (j := i + 2) rfl (nI_add _ _) (by omega) (by omega) ?_
          refine V.run 20 rfl ?_
          refine V.sld (j := i + 3) rfl (nI_add _ _) (by omega) (by omega) ?_
          refine V.run 20 rfl ?_
          refine V.sld (j := i + 4) rfl (nI_add _ _) (by omega) (by omega) ?_
          refine V.brT rfl rfl hb ?_
          refine V.run 1 rfl ?_
          refine V.cv rfl (c_link hB hI hC _ _ _ _ ) rfl rfl ?_
          rintro _ _ ⟨rfl, a1, v1, rfl, hC1⟩
          refine V.run 20 rfl ?_
          refine V.sld (j := i + 1) rfl (nI_add _ _) (by omega) (by omega) ?_
          refine V.run 20 rfl ?_
          refine V.sld (j := i + 2) rfl (nI_add _ _) (by omega) (by omega) ?_
          refine V.run 20 rfl ?_
          refine V.sld (j := i + 3) rfl (nI_add _ _) (by omega) (by omega) ?_
          refine V.run 20 rfl ?_
          refine V.sld (j := i + 4) rfl (nI_add _ _) (by omega) (by omega) ?_
          refine V.brT rfl rfl hb ?_
          refine V.run 1 rfl ?_
          refine V.cv rfl (m_link (cc := cC B a1 v1) hB hI hM _ _ _ _ ) rfl rfl ?_
          rintro _ _ ⟨rfl, am1, vm1, rfl, hM1⟩
          refine V.brT rfl rfl rfl ?_
          exact nxt _ _ _ _ _ ((Inv_link hI _ _ _ _).mono (by omega)) hC1 hM1
        · refine V.run 20 rfl ?_
          refine V.sld (j := i + 1) rfl (nI_add _ _) (by omega) (by omega) ?_
          refine V.run 20 rfl ?_
          refine V.sld (j := i + 2) rfl (nI_add _ _) (by omega) (by omega) ?_
          refine V.run 20 rfl ?_
          refine V.sld (j := i + 3) rfl (nI_add _ _) (by omega) (by omega) ?_
          refine V.run 20 rfl ?_
          refine V.sld (j := i + 4) rfl (nI_add _ _) (by omega) (by omega) ?_
          refine V.brF rfl rfl hb ?_
          refine V.run 2 rfl ?_
          refine V.cv rfl (c_link hB hI hC _ _ _ _ ) rfl rfl ?_
          rintro _ _ ⟨rfl, a1, v1, rfl, hC1⟩
          refine V.run 20 rfl ?_
          refine V.sld (j := i + 1) rfl (nI_add _ _) (by omega) (by omega) ?_
          refine V.run 20 rfl ?_
          refine V.sld (j := i + 2) rfl (nI_add _ _) (by omega) (by omega) ?_
          refine V.run 20 rfl ?_
          refine V.sld (j := i + 3) rfl (nI_add _ _) (by omega) (by omega) ?_
          refine V.run 20 rfl ?_
          refine V.sld (j := i + 4) rfl (nI_add _ _) (by omega) (by omega) ?_
          refine V.brF rfl rfl hb ?_
          refine V.run 2 rfl ?_
          refine V.cv rfl (m_link (cc := cC B a1 v1) hB hI hM _ _ _ _ ) rfl rfl ?_
          rintro _ _ ⟨rfl, am1, vm1, rfl, hM1⟩
          refine V.brT rfl rfl rfl ?_
          exact nxt _ _ _ _ _ ((Inv_link hI _ _ _ _).mono (by omega)) hC1 hM1
      · refine V.tableIn (tgt := 273) rfl (by decide) (by decide) rfl rfl ?_
        refine V.run 20 rfl ?_
        refine V.sld (j := i + 1) rfl (nI_add _ _) (by omega) (by omega) ?_
        refine V.run 20 rfl ?_
        refine V.sld (j := i + 2) rfl (nI_add _ _) (by omega) (by omega) ?_
        refine V.cv rfl (c_refers hB hI hC _ _ ) rfl rfl ?_
        rintro _ _ ⟨rfl, rfl⟩
        refine V.run 20 rfl ?_
        refine V.sld (j := i + 1) rfl (nI_add _ _) (by omega) (by omega) ?_
        refine V.run 20 rfl ?_
        refine V.sld (j := i + 2) rfl (nI_add _ _) (by omega) (by omega) ?_
        refine V.cv rfl (m_refers (cc := cC B a v) hB hI hM _ _ ) rfl rfl ?_
        rintro _ _ ⟨rfl, am1, vm1, rfl, hM1⟩
        refine V.brT rfl rfl rfl ?_
        exact nxt _ _ _ _ _ (hI.mono (by omega)) hC hM1
      · refine V.tableIn (tgt := 306) rfl (by decide) (by decide) rfl rfl ?_
        refine V.run 20 rfl ?_
        refine V.sld (j := i + 1) rfl (nI_add _ _) (by omega) (by omega) ?_
        refine V.run 20 rfl ?_
        refine V.sld (j := i + 2) rfl (nI_add _ _) (by omega) (by omega) ?_
        refine V.cv rfl (c_number hB hI hC _ _ ) rfl rfl ?_
        rintro _ _ ⟨rfl, rfl⟩
        refine V.run 20 rfl ?_
        refine V.sld (j := i + 1) rfl (nI_add _ _) (by omega) (by omega) ?_
        refine V.run 20 rfl ?_
        refine V.sld (j := i + 2) rfl (nI_add _ _) (by omega) (by omega) ?_
        refine V.cv rfl (m_number (cc := cC B a v) hB hI hM _ _ ) rfl rfl ?_
        rintro _ _ ⟨rfl, am1, vm1, rfl, hM1⟩
        refine V.brT rfl rfl rfl ?_
        exact nxt _ _ _ _ _ (hI.mono (by omega)) hC hM1
      · refine V.tableIn (tgt := 339) rfl (by decide) (by decide) rfl rfl ?_
        refine V.run 20 rfl ?_
        refine V.sld (j := i + 1) rfl (nI_add _ _) (by omega) (by omega) ?_
        refine V.run 20 rfl ?_
        refine V.sld (j := i + 2) rfl (nI_add _ _) (by omega) (by omega) ?_
        refine V.run 20 rfl ?_
        refine V.sld (j := i + 3) rfl (nI_add _ _) (by omega) (by omega) ?_
        refine V.cv rfl (c_load hB hI hC _ _ _ ) rfl rfl ?_
        rintro _ _ ⟨rfl, a1, v1, rfl, hC1⟩
        refine V.run 20 rfl ?_
        refine V.sld (j := i + 1) rfl (nI_add _ _) (by omega) (by omega) ?_
        refine V.run 20 rfl ?_
        refine V.sld (j := i + 2) rfl (nI_add _ _) (by omega) (by omega) ?_
        refine V.run 20 rfl ?_
        refine V.sld (j := i + 3) rfl (nI_add _ _) (by omega) (by omega) ?_
        refine V.cv rfl (m_load (cc := cC B a1 v1) hB hI hM _ _ _ ) rfl rfl ?_
        rintro _ _ ⟨rfl, am1, vm1, rfl, hM1⟩
        refine V.brT rfl rfl rfl ?_
        exact nxt _ _ _ _ _ ((Inv_load hB hI _ _ _).mono (by omega)) hC1 hM1
      · refine V.tableIn (tgt := 382) rfl (by decide) (by decide) rfl rfl ?_
        refine V.run 20 rfl ?_
        refine V.sld (j := i + 1) rfl (nI_add _ _) (by omega) (by omega) ?_
        refine V.run 20 rfl ?_
        refine V.sld (j := i + 2) rfl (nI_add _ _) (by omega) (by omega) ?_
        refine V.cv rfl (c_copy hB hI hC _ _ ) rfl rfl ?_
        rintro _ _ ⟨rfl, a1, v1, rfl, hC1⟩
        refine V.run 20 rfl ?_
        refine V.sld (j := i + 1) rfl (nI_add _ _) (by omega) (by omega) ?_
        refine V.run 20 rfl ?_
        refine V.sld (j := i + 2) rfl (nI_add _ _) (by omega) (by omega) ?_
        refine V.cv rfl (m_copy (cc := cC B a1 v1) hB hI hM _ _ ) rfl rfl ?_
        rintro _ _ ⟨rfl, am1, vm1, rfl, hM1⟩
        refine V.brT rfl rfl rfl ?_
        exact nxt _ _ _ _ _ ((Inv_copy hI _ _).mono (by omega)) hC1 hM1
      · refine V.tableIn (tgt := 415) rfl (by decide) (by decide) rfl rfl ?_
        refine V.run 20 rfl ?_
        refine V.sld (j := i + 1) rfl (nI_add _ _) (by omega) (by omega) ?_
        refine V.cv rfl (c_drop hB hI hC _ ) rfl rfl ?_
        rintro _ _ ⟨rfl, a1, v1, rfl, hC1⟩
        refine V.run 20 rfl ?_
        refine V.sld (j := i + 1) rfl (nI_add _ _) (by omega) (by omega) ?_
        refine V.cv rfl (m_drop (cc := cC B a1 v1) hB hI hM _ ) rfl rfl ?_
        rintro _ _ ⟨rfl, am1, vm1, rfl, hM1⟩
        refine V.brT rfl rfl rfl ?_
        exact nxt _ _ _ _ _ ((Inv_drop hI _).mono (by omega)) hC1 hM1
      · refine V.tableIn (tgt := 438) rfl (by decide) (by decide) rfl rfl ?_
        by_cases hb : xs (i + 2) = 0
        · refine V.run 20 rfl ?_
          refine V.sld (j := i + 1) rfl (nI_add _ _) (by omega) (by omega) ?_
          refine V.run 20 rfl ?_
          refine V.sld (j := i + 2) rfl (nI_add _ _) (by omega) (by omega) ?_
          refine V.brT rfl rfl hb ?_
          refine V.run 1 rfl ?_
          refine V.cv rfl (c_watch hB hI hC _ _ (Or.inl rfl)) rfl rfl ?_
          rintro _ _ ⟨rfl, a1, v1, rfl, hC1⟩
          refine V.run 20 rfl ?_
          refine V.sld (j := i + 1) rfl (nI_add _ _) (by omega) (by omega) ?_
          refine V.run 20 rfl ?_
          refine V.sld (j := i + 2) rfl (nI_add _ _) (by omega) (by omega) ?_
          refine V.brT rfl rfl hb ?_
          refine V.run 1 rfl ?_
          refine V.cv rfl (m_watch (cc := cC B a1 v1) hB hI hM _ _ (Or.inl rfl)) rfl rfl ?_
          rintro _ _ ⟨rfl, am1, vm1, rfl, hM1⟩
          refine V.brT rfl rfl rfl ?_
          exact nxt _ _ _ _ _ ((Inv_watch hB hI _ _ (Or.inl rfl)).mono (by omega)) hC1 hM1
        · refine V.run 20 rfl ?_
          refine V.sld (j := i + 1) rfl (nI_add _ _) (by omega) (by omega) ?_
          refine V.run 20 rfl ?_
          refine V.sld (j := i + 2) rfl (nI_add _ _) (by omega) (by omega) ?_
          refine V.brF rfl rfl hb ?_
          refine V.run 2 rfl ?_
          refine V.cv rfl (c_watch hB hI hC _ _ (Or.inr rfl)) rfl rfl ?_
          rintro _ _ ⟨rfl, a1, v1, rfl, hC1⟩
          refine V.run 20 rfl ?_
          refine V.sld (j := i + 1) rfl (nI_add _ _) (by omega) (by omega) ?_
          refine V.run 20 rfl ?_
          refine V.sld (j := i + 2) rfl (nI_add _ _) (by omega) (by omega) ?_
          refine V.brF rfl rfl hb ?_
          refine V.run 2 rfl ?_
          refine V.cv rfl (m_watch (cc := cC B a1 v1) hB hI hM _ _ (Or.inr rfl)) rfl rfl ?_
          rintro _ _ ⟨rfl, am1, vm1, rfl, hM1⟩
          refine V.brT rfl rfl rfl ?_
          exact nxt _ _ _ _ _ ((Inv_watch hB hI _ _ (Or.inr rfl)).mono (by omega)) hC1 hM1
      · refine V.tableIn (tgt := 487) rfl (by decide) (by decide) rfl rfl ?_
        refine V.run 20 rfl ?_
        refine V.sld (j := i + 1) rfl (nI_add _ _) (by omega) (by omega) ?_
        refine V.cv rfl (c_next hB hI hC _ ) rfl rfl ?_
        rintro _ _ ⟨rfl, a1, v1, rfl, hC1⟩
        refine V.run 20 rfl ?_
        refine V.sld (j := i + 1) rfl (nI_add _ _) (by omega) (by omega) ?_
        refine V.cv rfl (m_next (cc := cC B a1 v1) hB hI hM _ ) rfl rfl ?_
        rintro _ _ ⟨rfl, am1, vm1, rfl, hM1⟩
        refine V.brT rfl rfl rfl ?_
        exact nxt _ _ _ _ _ ((Inv_next hI _).mono (by omega)) hC1 hM1
      · refine V.tableIn (tgt := 510) rfl (by decide) (by decide) rfl rfl ?_
        refine V.run 20 rfl ?_
        refine V.cv rfl (c_mark hB hI hC  ) rfl rfl ?_
        rintro _ _ ⟨rfl, a1, v1, rfl, hC1⟩
        refine V.run 20 rfl ?_
        refine V.cv rfl (m_mark (cc := cC B a1 v1) hB hn hI hM  ) rfl rfl ?_
        rintro _ _ ⟨rfl, am1, vm1, rfl, hM1⟩
        refine V.brT rfl rfl rfl ?_
        exact nxt _ _ _ _ _ ((Inv_mrk hB hI).mono (by omega)) hC1 hM1
      · refine V.tableIn (tgt := 523) rfl (by decide) (by decide) rfl rfl ?_
        refine V.run 20 rfl ?_
        refine V.cv rfl (c_sweep hB hI hC  ) rfl rfl ?_
        rintro _ _ ⟨rfl, a1, v1, rfl, hC1⟩
        refine V.run 20 rfl ?_
        refine V.cv rfl (m_sweep (cc := cC B a1 v1) hB hI hM  ) rfl rfl ?_
        rintro _ _ ⟨rfl, am1, vm1, rfl, hM1⟩
        refine V.brT rfl rfl rfl ?_
        exact nxt _ _ _ _ _ ((Inv_sweep hI).mono (by omega)) hC1 hM1
      · refine V.tableIn (tgt := 536) rfl (by decide) (by decide) rfl rfl ?_
        refine V.run 20 rfl ?_
        refine V.sld (j := i + 1) rfl (nI_add _ _) (by omega) (by omega) ?_
        refine V.run 20 rfl ?_
        refine V.sld (j := i + 2) rfl (nI_add _ _) (by omega) (by omega) ?_
        refine V.cv rfl (c_object hB hI hC _ _ ) rfl rfl ?_
        rintro _ _ ⟨rfl, rfl⟩
        refine V.run 20 rfl ?_
        refine V.sld (j := i + 1) rfl (nI_add _ _) (by omega) (by omega) ?_
        refine V.run 20 rfl ?_
        refine V.sld (j := i + 2) rfl (nI_add _ _) (by omega) (by omega) ?_
        refine V.cv rfl (m_object (cc := cC B a v) hB hI hM _ _ ) rfl rfl ?_
        rintro _ _ ⟨rfl, am1, vm1, rfl, hM1⟩
        refine V.brT rfl rfl rfl ?_
        exact nxt _ _ _ _ _ (hI.mono (by omega)) hC hM1
      · refine V.tableIn (tgt := 569) rfl (by decide) (by decide) rfl rfl ?_
        refine V.run 20 rfl ?_
        refine V.sld (j := i + 1) rfl (nI_add _ _) (by omega) (by omega) ?_
        refine V.cv rfl (c_at hB hI hC _ ) rfl rfl ?_
        rintro _ _ ⟨rfl, rfl⟩
        refine V.run 20 rfl ?_
        refine V.sld (j := i + 1) rfl (nI_add _ _) (by omega) (by omega) ?_
        refine V.cv rfl (m_at (cc := cC B a v) hB hB1 hI hM _ ) rfl rfl ?_
        rintro _ _ ⟨rfl, am1, vm1, rfl, hM1⟩
        refine V.brT rfl rfl rfl ?_
        exact nxt _ _ _ _ _ (hI.mono (by omega)) hC hM1
      · refine V.tableIn (tgt := 592) rfl (by decide) (by decide) rfl rfl ?_
        refine V.run 20 rfl ?_
        refine V.sld (j := i + 1) rfl (nI_add _ _) (by omega) (by omega) ?_
        refine V.run 20 rfl ?_
        refine V.sld (j := i + 2) rfl (nI_add _ _) (by omega) (by omega) ?_
        refine V.cv rfl (c_block hB hI hC _ _ ) rfl rfl ?_
        rintro _ _ ⟨rfl, rfl⟩
        refine V.run 20 rfl ?_
        refine V.sld (j := i + 1) rfl (nI_add _ _) (by omega) (by omega) ?_
        refine V.run 20 rfl ?_
        refine V.sld (j := i + 2) rfl (nI_add _ _) (by omega) (by omega) ?_
        refine V.cv rfl (m_block (cc := cC B a v) hB hB1 hI hM _ _ ) rfl rfl ?_
        rintro _ _ ⟨rfl, am1, vm1, rfl, hM1⟩
        refine V.brT rfl rfl rfl ?_
        exact nxt _ _ _ _ _ (hI.mono (by omega)) hC hM1
      · refine V.tableIn (tgt := 625) rfl (by decide) (by decide) rfl rfl ?_
        refine V.run 20 rfl ?_
        refine V.sld (j := i + 1) rfl (nI_add _ _) (by omega) (by omega) ?_
        refine V.cv rfl (c_count hB hI hC _ ) rfl rfl ?_
        rintro _ _ ⟨rfl, a1, v1, rfl, hC1⟩
        refine V.run 20 rfl ?_
        refine V.sld (j := i + 1) rfl (nI_add _ _) (by omega) (by omega) ?_
        refine V.cv rfl (m_count (cc := cC B a1 v1) hB hI hM _ ) rfl rfl ?_
        rintro _ _ ⟨rfl, am1, vm1, rfl, hM1⟩
        refine V.brT rfl rfl rfl ?_
        exact nxt _ _ _ _ _ (hI.mono (by omega)) hC1 hM1
      · refine V.tableIn (tgt := 648) rfl (by decide) (by decide) rfl rfl ?_
        refine V.run 20 rfl ?_
        refine V.sld (j := i + 1) rfl (nI_add _ _) (by omega) (by omega) ?_
        refine V.run 20 rfl ?_
        refine V.sld (j := i + 2) rfl (nI_add _ _) (by omega) (by omega) ?_
        refine V.cv rfl (c_same hB hI hC _ _ ) rfl rfl ?_
        rintro _ _ ⟨rfl, rfl⟩
        refine V.run 20 rfl ?_
        refine V.sld (j := i + 1) rfl (nI_add _ _) (by omega) (by omega) ?_
        refine V.run 20 rfl ?_
        refine V.sld (j := i + 2) rfl (nI_add _ _) (by omega) (by omega) ?_
        refine V.cv rfl (m_same (cc := cC B a v) hB hI hM _ _ ) rfl rfl ?_
        rintro _ _ ⟨rfl, am1, vm1, rfl, hM1⟩
        refine V.brT rfl rfl rfl ?_
        exact nxt _ _ _ _ _ (hI.mono (by omega)) hC hM1
      · refine V.tableIn (tgt := 681) rfl (by decide) (by decide) rfl rfl ?_
        refine V.run 20 rfl ?_
        refine V.sld (j := i + 1) rfl (nI_add _ _) (by omega) (by omega) ?_
        refine V.cv rfl (c_sum hB hI hC _ ) rfl rfl ?_
        rintro _ _ ⟨rfl, a1, v1, rfl, hC1⟩
        refine V.run 20 rfl ?_
        refine V.sld (j := i + 1) rfl (nI_add _ _) (by omega) (by omega) ?_
        refine V.cv rfl (m_sum (cc := cC B a1 v1) hB hI hM _ ) rfl rfl ?_
        rintro _ _ ⟨rfl, am1, vm1, rfl, hM1⟩
        refine V.run 20 rfl ?_
        refine V.brT rfl rfl (lg_cmp_self _) ?_
        exact nxt _ _ _ _ _ (hI.mono (by omega)) hC1 hM1
      · refine V.tableOut (tgt := 705) rfl (Or.inr (by rw [nI_toInt (by omega)]; omega)) rfl ?_
        exact nxt s a v am vm (hI.mono (by omega)) hC hM
    · exact out i a v am vm (by omega) (by omega) hgo
