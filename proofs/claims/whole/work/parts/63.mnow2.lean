theorem Ql.add {L : List Nat} {f : Nat → Int32} {n : Int32} (h : Ql L f n) (x : Nat) : Ql (L ++ [x]) (upd f L.length (nI x)) (n + nI 1) := by
  obtain ⟨h1, h2⟩ := h
  refine ⟨by rw [h1, nI_add, List.length_append]; rfl, fun i y hi => ?_⟩
  by_cases q : i < L.length
  · rw [List.getElem?_append_left q] at hi
    rw [upd_n (by omega)]
    exact h2 i y hi
  · have hl := (List.getElem?_eq_some_iff.mp hi).1
    rw [List.length_append, List.length_singleton] at hl
    have e : i = L.length := by omega
    subst e
    rw [List.getElem?_append_right (Nat.le_refl _), Nat.sub_self] at hi
    cases hi
    exact upd_s
section MN2
variable {c : Nat → xC} {B : Nat} {a : Nat → Nat → Int32} {v : Nat → Int32}
/-- the queue's new members, the least name first -/
theorem m_mk4 (hB : B ≤ 16) {G : Nat → Prop} (hp : hpOK (32 * B) (a 3) (a 6) (a 7) G) {L : List Nat} (hW : Wk (32 * B) L (a 10) (a 11) (v 5)) (hG : Wg B G L) (hwt : wtOK (32 * B) (a 2) (a 5) G) {Q0 T : List Nat} (hT : T = sq (a 2) (a 5) L (16 * B)) (hqG : Wg B G (Q0 ++ T)) {Q : Option Value → xW → Prop}
    (kk : ∀ bf fq nq, Ql (Q0 ++ T) fq nq → V none 94 Q (0, 0) 179 [(0, .ref 19), (1, .int bf), (2, .int (nI Q0.length)), (3, .int (nI 0))] [] (wM c B (setA a 9 fq) (uV v 4 nq))) :
    ∀ (m : Nat) (T1 T2 : List Nat) (fq : Nat → Int32) (nq bf : Int32), T2.length = m → T1 ++ T2 = T → Ql (Q0 ++ T1) fq nq → (∀ y ∈ T1, a 2 y ≤ bf) → (∀ y ∈ T2, bf < a 2 y) →
    V none 94 Q (0, 0) 28 [(0, .ref 19), (1, .int bf), (2, .int (nI Q0.length)), (3, .int (nI 1))] [.int (nI 1)] (wM c B (setA a 9 fq) (uV v 4 nq)) := by
  have hlen := hG.len hp
  have hql := hqG.len hp
  have hTm : ∀ w, w ∈ T ↔ w < 32 * B ∧ w % 2 = 0 ∧ a 5 w = 1 ∧ w ∉ L := fun w => by
    rw [hT, sq_mem, show 2 * (16 * B) = 32 * B by omega]
  have hsr : srt (a 2) T := by rw [hT]; exact (sq_ok hwt L (16 * B) (by omega)).2
  have hnd : T.Nodup := by rw [hT]; exact (sq_ok hwt L (16 * B) (by omega)).1
  intro m
  induction m with
  | zero =>
    intro T1 T2 fq nq bf hm hTT hq h1 h2
    have e : T2 = [] := List.eq_nil_of_length_eq_zero hm
    subst e
    rw [List.append_nil] at hTT
    subst hTT
    refine V.brF rfl rfl i1_ne0 ?_
    refine V.run 20 rfl ?_
    rw [pk_mul]
    refine m_mk4i (T2 := []) hB (by exact hW) (by omega) (by exact hwt.1) (fun w hw => ?_) (fun lw hlw => ?_) (32 * B) 0 (-1) (by omega) (Or.inl ⟨rfl, fun u hu => absurd hu (Nat.not_lt_zero u)⟩)
    · constructor
      · intro h; simp at h
      · rintro ⟨q1, q2, q3⟩
        have q3 : bf < a 2 w := q3
        have := h1 w ((hTm w).mpr ⟨hw, (hp w (hwt.2.1 w hw q1)).2.1, q1, q2⟩)
        exact absurd this (Int32.not_le.mpr q3)
    · rcases hlw with ⟨rfl, -⟩ | ⟨l, -, h, -⟩
      · refine V.run 20 rfl ?_
        refine V.brT rfl rfl rfl ?_
        refine V.run 20 rfl ?_
        refine V.brT rfl rfl i0_eq0 ?_
        refine V.run 20 rfl ?_
        refine V.brT rfl rfl i0_eq0 ?_
        exact V.lt 4 rfl (kk bf fq nq hq)
      · simp at h
  | succ m ih =>
    intro T1 T2 fq nq bf hm hTT hq h1 h2
    have hlT : T1.length + T2.length = T.length := by rw [← hTT, List.length_append]
    have hlQ : Q0.length + T.length ≤ 16 * B := by rw [List.length_append] at hql; exact hql
    refine V.brF rfl rfl i1_ne0 ?_
    refine V.run 20 rfl ?_
    rw [pk_mul]
    refine m_mk4i (T2 := T2) hB (by exact hW) (by omega) (by exact hwt.1) (fun w hw => ?_) (fun lw hlw => ?_) (32 * B) 0 (-1) (by omega) (Or.inl ⟨rfl, fun u hu => absurd hu (Nat.not_lt_zero u)⟩)
    · show w ∈ T2 ↔ a 5 w = 1 ∧ w ∉ L ∧ bf < a 2 w
      constructor
      · intro h
        have := (hTm w).mp (hTT ▸ List.mem_append_right _ h)
        exact ⟨this.2.2.1, this.2.2.2, h2 w h⟩
      · rintro ⟨q1, q2, q3⟩
        have := (hTm w).mpr ⟨hw, (hp w (hwt.2.1 w hw q1)).2.1, q1, q2⟩
        rw [← hTT] at this
        rcases List.mem_append.mp this with h | h
        · exact absurd (h1 w h) (Int32.not_le.mpr q3)
        · exact h
    · rcases hlw with ⟨-, hn⟩ | ⟨l, rfl, hl, hlB, hmin⟩
      · cases T2 with
        | nil => simp at hm
        | cons y r =>
          have hy : y ∈ T := hTT ▸ List.mem_append_right _ List.mem_cons_self
          exact absurd List.mem_cons_self (hn y ((hTm y).mp hy).1)
      · have hmin : ∀ u, u < 32 * B → u ∈ T2 → a 2 l ≤ a 2 u := hmin
        cases T2 with
        | nil => simp at hl
        | cons y r =>
          have hs2 : srt (a 2) (y :: r) := by
            rw [← hTT] at hsr
            exact (List.pairwise_append.mp hsr).2.1
          have hs3 := List.pairwise_cons.mp hs2
          have ely : l = y := by
            rcases List.mem_cons.mp hl with h | h
            · exact h
            · have h5 := hs3.1 l h
              have hy : y ∈ T := hTT ▸ List.mem_append_right _ List.mem_cons_self
              exact absurd (hmin y ((hTm y).mp hy).1 List.mem_cons_self) (Int32.not_le.mpr h5)
          subst ely
          simp only [List.length_cons] at hm hlT
          have hnq : nq = nI (Q0 ++ T1).length := hq.1
          have hl1 : (Q0 ++ T1).length = Q0.length + T1.length := List.length_append
          refine V.run 20 rfl ?_
          refine V.brF rfl rfl (nI_m1 (by omega)) ?_
          refine V.run 20 rfl ?_
          refine V.brF rfl rfl i1_ne0 ?_
          refine V.run 20 rfl ?_
          refine V.iald rfl rfl rfl (show l < 512 by omega) (by omega) ?_
          refine V.run 20 rfl ?_
          refine V.iast (w' := wM c B (setA a 9 (upd fq (Q0 ++ T1).length (nI l))) (uV v 4 nq)) rfl rfl hnq (show (Q0 ++ T1).length < 512 by omega) (by omega) rfl ?_
          refine V.run 20 rfl ?_
          refine V.puti (w' := wM c B (setA a 9 (upd fq (Q0 ++ T1).length (nI l))) (uV v 4 (nq + nI 1))) rfl rfl rfl ?_
          refine V.run 20 rfl ?_
          refine V.lt 4 rfl ?_
          refine ih (T1 ++ [l]) r _ _ (a 2 l) (by omega) (by rw [← hTT, List.append_assoc]; rfl) (by rw [← List.append_assoc]; exact hq.add l) (fun z hz => ?_) (fun z hz => hs3.1 z hz)
          rcases List.mem_append.mp hz with h | h
          · exact Int32.le_trans (h1 z h) (Int32.le_of_lt (h2 l List.mem_cons_self))
          · rw [List.mem_singleton.mp h]; exact Int32.le_refl _
theorem m_markNow (hB : B ≤ 16) {G : Nat → Prop} (hp : hpOK (32 * B) (a 3) (a 6) (a 7) G) (hr : rtOK (a 8) G) (hwt : wtOK (32 * B) (a 2) (a 5) G) (hnm : ∀ w, w < 32 * B → a 5 w = 1 → -1 < a 2 w) {Qs : List Nat} (hq : Ql Qs (a 9) (v 4)) (hqG : Wg B G Qs) :
    Tot none kX5_markNow [.ref 19] (wM c B a v) (fun o w' => o = none ∧ ∃ wt fq nq f g n k u,
      w' = wM c B (setA (setA (setA (setA (setA (setA (setA (setA a 5 wt) 6 (mK2 B (a 2) (a 3) (a 5) (a 6) (a 7) (a 8) Qs)) 7 (mV2 B (a 2) (a 3) (a 5) (a 6) (a 7) (a 8) Qs)) 9 fq) 10 f) 11 g) 4 k) 1 u) (uV (uV (uV v 2 (v 2 + nI 1)) 4 nq) 5 n) ∧
      (∀ w, w < 32 * B → wt w = mW B (a 3) (a 5) (a 6) (a 7) (a 8) Qs w) ∧ Ql (Qs ++ mT B (a 2) (a 3) (a 5) (a 6) (a 7) (a 8) Qs) fq nq ∧
      Wk (32 * B) (mL3 B (a 2) (a 3) (a 5) (a 6) (a 7) (a 8) Qs) f g n ∧ Wg B G (mL3 B (a 2) (a 3) (a 5) (a 6) (a 7) (a 8) Qs) ∧ (∀ w, w < 512 → k w = if g w = -1 then 0 else 1) ∧ ∀ b, b < B → u b = if a 0 b = -1 then 0 else 1) := by
  obtain ⟨f1, f2, f3, f4, f5, f6, f7⟩ := mrk_facts hB hp hr hqG.2 hwt
  refine eX5_markNow ?_
  refine V.run 20 rfl ?_
  refine V.puti (w' := wM c B a (uV v 2 (v 2 + nI 1))) rfl rfl rfl ?_
  refine V.run 20 rfl ?_
  refine V.cv rfl (m_reach hB (G := G) (Qs := Qs) (by exact hp) (by exact hr) (by exact hq) hqG) rfl rfl ?_
  rintro _ _ ⟨rfl, ff1, g1, n1, rfl, hW1, hG1⟩
  refine V.run 20 rfl ?_
  refine V.cv rfl (m_loosen hB (G := G) (by exact hp) (by exact hW1) hG1) rfl rfl ?_
  rintro _ _ ⟨rfl, rfl⟩
  refine V.run 20 rfl ?_
  have hQL : ∀ y ∈ Qs, y ∈ mL1 B (a 3) (a 6) (a 7) (a 8) Qs := fun y hy => f3 y (insL_mem.mpr (Or.inr hy))
  have hqT : Wg B G (Qs ++ mT B (a 2) (a 3) (a 5) (a 6) (a 7) (a 8) Qs) := by
    refine ⟨List.nodup_append.mpr ⟨hqG.1, (sq_ok hwt _ (16 * B) (by omega)).1, ?_⟩, fun y hy => ?_⟩
    · intro x hx y hy e
      subst e
      exact (sq_mem.mp hy).2.2.2 (hQL x hx)
    · rcases List.mem_append.mp hy with h | h
      · exact hqG.2 y h
      · exact (f7 y h).2
  have hp1 := hpOK_lo hp (mL1 B (a 3) (a 6) (a 7) (a 8) Qs)
  rw [show uV (uV v 2 (v 2 + nI 1)) 5 n1 4 = nI Qs.length from hq.1]
  refine m_mk4 (T := mT B (a 2) (a 3) (a 5) (a 6) (a 7) (a 8) Qs) (Q0 := Qs) (fq := a 9) (nq := v 4) (a := setA (setA (setA (setA a 10 ff1) 11 g1) 6 (loK (a 3) (a 6) (a 7) (mL1 B (a 3) (a 6) (a 7) (a 8) Qs))) 7 (loV (a 3) (a 6) (a 7) (mL1 B (a 3) (a 6) (a 7) (a 8) Qs))) (v := uV (uV v 2 (v 2 + nI 1)) 5 n1) hB (G := G) (by exact hp1) (by exact hW1) hG1 (by exact hwt) (by rfl) hqT (fun bf fq nq hq' => ?_) _ [] _ (-1) rfl rfl (by rw [List.append_nil]; exact hq) (fun y hy => by simp at hy) (fun y hy => ?_)
  · refine V.run 20 rfl ?_
    refine m_mk5 (Q0 := Qs) (T := mT B (a 2) (a 3) (a 5) (a 6) (a 7) (a 8) Qs) (L := mL1 B (a 3) (a 6) (a 7) (a 8) Qs) hB (G := G) (a := setA (setA (setA (setA (setA a 10 ff1) 11 g1) 6 (loK (a 3) (a 6) (a 7) (mL1 B (a 3) (a 6) (a 7) (a 8) Qs))) 7 (loV (a 3) (a 6) (a 7) (mL1 B (a 3) (a 6) (a 7) (a 8) Qs))) 9 fq) (v := uV (uV (uV v 2 (v 2 + nI 1)) 5 n1) 4 nq) (by exact hp1) (by exact hq') hqT (fun wt f g n hwt' hW2 hG2 => ?_) _ 0 (a 5) ff1 g1 n1 (Nat.zero_add _) (fun w hw => by rw [List.take_zero, if_neg (by simp)]; rfl) hW1 hG1
    refine V.run 20 rfl ?_
    refine V.cv rfl (m_follow hB (G := G) (by exact hp1) (by exact hW2) hG2) rfl rfl ?_
    rintro _ _ ⟨rfl, f9, g9, n9, rfl, hW3, hG3⟩
    have e3 : fol (tgs (a 3) (loK (a 3) (a 6) (a 7) (mL1 B (a 3) (a 6) (a 7) (a 8) Qs)) (loV (a 3) (a 6) (a 7) (mL1 B (a 3) (a 6) (a 7) (a 8) Qs))) (16 * B + 1) 0 (insL (mL1 B (a 3) (a 6) (a 7) (a 8) Qs) (mT B (a 2) (a 3) (a 5) (a 6) (a 7) (a 8) Qs)) = mL3 B (a 2) (a 3) (a 5) (a 6) (a 7) (a 8) Qs := by
      obtain ⟨M, hM⟩ := insL_pre (mT B (a 2) (a 3) (a 5) (a 6) (a 7) (a 8) Qs) (mL1 B (a 3) (a 6) (a 7) (a 8) Qs)
      have hl := f1.len hp
      have := fol_skip (T := tgs (a 3) (loK (a 3) (a 6) (a 7) (mL1 B (a 3) (a 6) (a 7) (a 8) Qs)) (loV (a 3) (a 6) (a 7) (mL1 B (a 3) (a 6) (a 7) (a 8) Qs))) (L := insL (mL1 B (a 3) (a 6) (a 7) (a 8) Qs) (mT B (a 2) (a 3) (a 5) (a 6) (a 7) (a 8) Qs)) (i := (mL1 B (a 3) (a 6) (a 7) (a 8) Qs).length) (by rw [hM, List.length_append]; omega) (fun k x hk hx y hy => by
        rw [hM, List.getElem?_append_left hk] at hx
        rw [tgs_lo] at hy
        exact insL_mem.mpr (Or.inl (f2 x (List.mem_of_getElem? hx) y hy))) (16 * B + 1 - (mL1 B (a 3) (a 6) (a 7) (a 8) Qs).length) (mL1 B (a 3) (a 6) (a 7) (a 8) Qs).length 0 (Nat.zero_add _)
      rw [show (mL1 B (a 3) (a 6) (a 7) (a 8) Qs).length + (16 * B + 1 - (mL1 B (a 3) (a 6) (a 7) (a 8) Qs).length) = 16 * B + 1 by omega] at this
      exact this
    have hW3 : Wk (32 * B) (mL3 B (a 2) (a 3) (a 5) (a 6) (a 7) (a 8) Qs) f9 g9 n9 := by rw [← e3]; exact hW3
    refine V.run 20 rfl ?_
    refine V.cv rfl (m_loosen hB (G := G) (by exact hp1) (by exact hW3) f4) rfl rfl ?_
    rintro _ _ ⟨rfl, rfl⟩
    refine V.run 20 rfl ?_
    refine m_mk8 (a := setA (setA (setA (setA (setA (setA a 5 wt) 6 (mK2 B (a 2) (a 3) (a 5) (a 6) (a 7) (a 8) Qs)) 7 (mV2 B (a 2) (a 3) (a 5) (a 6) (a 7) (a 8) Qs)) 9 fq) 10 f9) 11 g9) (v := uV (uV (uV v 2 (v 2 + nI 1)) 4 nq) 5 n9) hB (fun k u hk hu => ?_) 512 0 (a 4) (by omega) (fun w hw => absurd hw (Nat.not_lt_zero w))
    refine ⟨rfl, wt, fq, nq, f9, g9, n9, k, u, rfl, fun w hw => ?_, hq', hW3, f4, hk, hu⟩
    rw [hwt' w hw]
    unfold mW wtQ
    have e : (w ∈ mT B (a 2) (a 3) (a 5) (a 6) (a 7) (a 8) Qs) ↔ w % 2 = 0 ∧ a 5 w = 1 ∧ w ∉ mL1 B (a 3) (a 6) (a 7) (a 8) Qs := by
      unfold mT
      rw [sq_mem]
      exact ⟨fun h => h.2, fun h => ⟨by omega, h⟩⟩
    have e1 : Nat.ble (w + 1) (2 * (16 * B)) = true := by simp only [Nat.ble_eq]; omega
    show (if w ∈ mT B (a 2) (a 3) (a 5) (a 6) (a 7) (a 8) Qs then 0 else a 5 w) = _
    simp only [e]
    rw [e1, Bool.true_and]
    by_cases q : w % 2 = 0 ∧ a 5 w = 1 ∧ w ∉ mL1 B (a 3) (a 6) (a 7) (a 8) Qs
    · rw [if_pos q]; simp [q.1, q.2.1, q.2.2]; rfl
    · rw [if_neg q]
      have : (Nat.beq (w % 2) 0 && (decide (a 5 w = 1) && !decide (w ∈ mL1 B (a 3) (a 6) (a 7) (a 8) Qs))) = false := by
        rw [Bool.eq_false_iff]
        intro h
        simp only [Bool.and_eq_true, Nat.beq_eq, decide_eq_true_eq, Bool.not_eq_true', decide_eq_false_iff_not] at h
        exact q h
      rw [this]; rfl
  · have := sq_mem.mp hy
    exact hnm y (by omega) this.2.2.1
end MN2
