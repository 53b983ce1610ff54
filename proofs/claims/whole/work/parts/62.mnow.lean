theorem insL_app (L xs ys : List Nat) : insL L (xs ++ ys) = insL (insL L xs) ys := List.foldl_append
section MN
variable {c : Nat → xC} {B : Nat} {a : Nat → Nat → Int32} {v : Nat → Int32}
set_option maxRecDepth 20000 in
/-- its last loop: blocks are unswept -/
theorem m_mk9 (hB : B ≤ 16) {bf fr mo : Int32} {Q : Option Value → xW → Prop} (kk : ∀ u : Nat → Int32, (∀ b, b < B → u b = if a 0 b = -1 then 0 else 1) → Q none (wM c B (setA a 1 u) v)) : ∀ (m i : Nat) (u : Nat → Int32), i + m = B → (∀ b, b < i → u b = if a 0 b = -1 then 0 else 1) →
    V none 94 Q (0, 0) 278 [(0, .ref 19), (1, .int bf), (2, .int fr), (3, .int mo), (4, .int (nI i))] [.int (nI B), .int (nI i)] (wM c B (setA a 1 u) v) := by
  intro m
  induction m with
  | zero =>
    intro i u hi hu
    refine V.brT rfl rfl (nI_le (by omega) (by omega)) ?_
    refine V.rv rfl ?_
    exact kk u (fun b hb => hu b (by omega))
  | succ m ih =>
    intro i u hi hu
    have hib : i < B := by omega
    have key : ∀ z : Int32, (z = if a 0 i = -1 then 0 else 1) → ∀ b, b < i + 1 → upd u i z b = if a 0 b = -1 then 0 else 1 := by
      intro z hz b hb
      by_cases q : b = i
      · subst q; rw [upd_s]; exact hz
      · rw [upd_n q]; exact hu b (by omega)
    refine V.brF rfl rfl (nI_ge hib (by omega)) ?_
    refine V.run 20 rfl ?_
    refine V.iald rfl rfl rfl (show i < 16 by omega) (by omega) ?_
    refine V.run 20 rfl ?_
    refine V.br rfl rfl (fun h => ?_) (fun h => ?_)
    · refine V.run 20 rfl ?_
      refine V.zast (w' := wM c B (setA a 1 (upd u i (nI 0))) v) rfl rfl rfl (show i < 16 by omega) (by omega) (Or.inl rfl) rfl ?_
      refine V.run 20 rfl ?_
      rw [nI_add]
      exact ih (i + 1) _ (by omega) (key (nI 0) (by rw [if_pos (show a 0 i = -1 from h)]; rfl))
    · refine V.run 20 rfl ?_
      refine V.zast (w' := wM c B (setA a 1 (upd u i (nI 1))) v) rfl rfl rfl (show i < 16 by omega) (by omega) (Or.inr rfl) rfl ?_
      refine V.run 20 rfl ?_
      rw [nI_add]
      exact ih (i + 1) _ (by omega) (key (nI 1) (by rw [if_neg (show ¬ a 0 i = -1 from h)]; rfl))
/-- the loop before it: what has a place is marked -/
theorem m_mk8 (hB : B ≤ 16) {bf fr mo : Int32} {Q : Option Value → xW → Prop} (kk : ∀ (k u : Nat → Int32), (∀ w, w < 512 → k w = if a 11 w = -1 then 0 else 1) → (∀ b, b < B → u b = if a 0 b = -1 then 0 else 1) → Q none (wM c B (setA (setA a 4 k) 1 u) v)) : ∀ (m i : Nat) (k : Nat → Int32), i + m = 512 → (∀ w, w < i → k w = if a 11 w = -1 then 0 else 1) →
    V none 94 Q (0, 0) 237 [(0, .ref 19), (1, .int bf), (2, .int fr), (3, .int mo), (4, .int (nI i))] [.int (nI 512), .int (nI i)] (wM c B (setA a 4 k) v) := by
  intro m
  induction m with
  | zero =>
    intro i k hi hk
    refine V.brT rfl rfl (nI_le (by omega) (by omega)) ?_
    refine V.run 20 rfl ?_
    exact m_mk9 (a := setA a 4 k) hB (fun u hu => kk k u (fun w hw => hk w (by omega)) hu) B 0 (a 1) (by omega) (fun b hb => absurd hb (Nat.not_lt_zero b))
  | succ m ih =>
    intro i k hi hk
    have key : ∀ z : Int32, (z = if a 11 i = -1 then 0 else 1) → ∀ b, b < i + 1 → upd k i z b = if a 11 b = -1 then 0 else 1 := by
      intro z hz b hb
      by_cases q : b = i
      · subst q; rw [upd_s]; exact hz
      · rw [upd_n q]; exact hk b (by omega)
    refine V.brF rfl rfl (nI_ge (show i < 512 by omega) (by omega)) ?_
    refine V.run 20 rfl ?_
    refine V.iald rfl rfl rfl (show i < 512 by omega) (by omega) ?_
    refine V.run 20 rfl ?_
    refine V.br rfl rfl (fun h => ?_) (fun h => ?_)
    · refine V.run 20 rfl ?_
      refine V.zast (w' := wM c B (setA a 4 (upd k i (nI 0))) v) rfl rfl rfl (show i < 512 by omega) (by omega) (Or.inl rfl) rfl ?_
      refine V.run 20 rfl ?_
      rw [nI_add]
      exact ih (i + 1) _ (by omega) (key (nI 0) (by rw [if_pos (show a 11 i = -1 from h)]; rfl))
    · refine V.run 20 rfl ?_
      refine V.zast (w' := wM c B (setA a 4 (upd k i (nI 1))) v) rfl rfl rfl (show i < 512 by omega) (by omega) (Or.inr rfl) rfl ?_
      refine V.run 20 rfl ?_
      rw [nI_add]
      exact ih (i + 1) _ (by omega) (key (nI 1) (by rw [if_neg (show ¬ a 11 i = -1 from h)]; rfl))
/-- those that came to the queue are watched no more, and met -/
theorem m_mk5 (hB : B ≤ 16) {G : Nat → Prop} (hp : hpOK (32 * B) (a 3) (a 6) (a 7) G) {Q0 T L : List Nat} (hq : Ql (Q0 ++ T) (a 9) (v 4)) (hqG : Wg B G (Q0 ++ T)) {bf mo : Int32} {Q : Option Value → xW → Prop}
    (kk : ∀ wt f g n, (∀ w, w < 32 * B → wt w = if w ∈ T then 0 else a 5 w) → Wk (32 * B) (insL L T) f g n → Wg B G (insL L T) → V none 94 Q (0, 0) 221 [(0, .ref 19), (1, .int bf), (2, .int (nI Q0.length)), (3, .int mo)] [] (wMk c B (setA a 5 wt) v f g n)) :
    ∀ (m j : Nat) (wt f g : Nat → Int32) (n : Int32), j + m = T.length → (∀ w, w < 32 * B → wt w = if w ∈ T.take j then 0 else a 5 w) → Wk (32 * B) (insL L (T.take j)) f g n → Wg B G (insL L (T.take j)) →
    V none 94 Q (0, 0) 188 [(0, .ref 19), (1, .int bf), (2, .int (nI Q0.length)), (3, .int mo), (4, .int (nI (Q0.length + j)))] [.int (v 4), .int (nI (Q0.length + j))] (wMk c B (setA a 5 wt) v f g n) := by
  have hql := hqG.len hp
  rw [List.length_append] at hql
  have hv4 : v 4 = nI (Q0.length + T.length) := by rw [hq.1, List.length_append]
  intro m
  induction m with
  | zero =>
    intro j wt f g n hj hwt hW hG
    rw [List.take_of_length_le (by omega)] at hwt hW hG
    refine V.brT rfl rfl (le_eq hv4 (by omega) (by omega)) ?_
    exact V.lt 4 rfl (kk wt f g n hwt hW hG)
  | succ m ih =>
    intro j wt f g n hj hwt hW hG
    obtain ⟨y, hy⟩ : ∃ y, T[j]? = some y := ⟨_, List.getElem?_eq_getElem (by omega)⟩
    have hyT := List.mem_of_getElem? hy
    have hyG := hqG.2 y (List.mem_append_right _ hyT)
    have hyN := (hp y hyG).1
    have et : T.take (j + 1) = T.take j ++ [y] := by rw [List.take_add_one, hy]; rfl
    have hfy : a 9 (Q0.length + j) = nI y := hq.2 _ y (by rw [List.getElem?_append_right (by omega), Nat.add_sub_cancel_left]; exact hy)
    refine V.brF rfl rfl (fun h => nI_ge (show Q0.length + j < Q0.length + T.length by omega) (by omega) (hv4 ▸ h)) ?_
    refine V.run 20 rfl ?_
    refine V.ialE rfl rfl rfl (show Q0.length + j < 512 by omega) (by omega) hfy ?_
    refine V.run 20 rfl ?_
    refine V.zast (w' := wMk c B (setA a 5 (upd wt y (nI 0))) v f g n) rfl rfl rfl (show y < 512 by omega) (by omega) (Or.inl rfl) rfl ?_
    refine V.run 20 rfl ?_
    refine V.ialE rfl rfl rfl (show Q0.length + j < 512 by omega) (by omega) hfy ?_
    refine V.cv rfl (m_meet hB hyN (by exact hW) (hG.len hp)) rfl rfl ?_
    rintro _ _ ⟨rfl, f', g', n', rfl, hW'⟩
    refine V.run 20 rfl ?_
    rw [nI_add]
    have ei : insL L (T.take (j + 1)) = ins (insL L (T.take j)) y := by rw [et, insL_app]; rfl
    refine ih (j + 1) (upd wt y (nI 0)) f' g' n' (by omega) (fun w hw => ?_) (by rw [ei]; exact hW') (by rw [ei]; exact hG.add1 hyG)
    rw [et]
    by_cases q : w = y
    · subst q
      rw [upd_s, if_pos (List.mem_append_right _ (List.mem_singleton.mpr rfl))]
      rfl
    · rw [upd_n q, hwt w hw]
      have : w ∈ T.take j ++ [y] ↔ w ∈ T.take j := by simp [q]
      simp only [this]
/-- the least name beyond: the inner search -/
theorem m_mk4i (hB : B ≤ 16) {L T2 : List Nat} {bf fr : Int32} (hW : Wk (32 * B) L (a 10) (a 11) (v 5)) (hl : L.length < 2 ^ 31) (hwt : ∀ w, w < 32 * B → a 5 w = 0 ∨ a 5 w = 1) (hT2 : ∀ w, w < 32 * B → (w ∈ T2 ↔ a 5 w = 1 ∧ w ∉ L ∧ bf < a 2 w)) {Q : Option Value → xW → Prop}
    (kk : ∀ lw : Int32, ((lw = -1 ∧ ∀ u, u < 32 * B → u ∉ T2) ∨ ∃ l, lw = nI l ∧ l ∈ T2 ∧ l < 32 * B ∧ ∀ u, u < 32 * B → u ∈ T2 → a 2 l ≤ a 2 u) → V none 94 Q (0, 0) 131 [(0, .ref 19), (1, .int bf), (2, .int fr), (3, .int (nI 1)), (4, .int lw)] [] (wM c B a v)) :
    ∀ (m w : Nat) (lw : Int32), w + m = 32 * B → ((lw = -1 ∧ ∀ u, u < w → u ∉ T2) ∨ ∃ l, lw = nI l ∧ l ∈ T2 ∧ l < w ∧ ∀ u, u < w → u ∈ T2 → a 2 l ≤ a 2 u) →
    V none 94 Q (0, 0) 46 [(0, .ref 19), (1, .int bf), (2, .int fr), (3, .int (nI 1)), (4, .int lw), (5, .int (nI w))] [.int (nI (32 * B)), .int (nI w)] (wM c B a v) := by
  intro m
  induction m with
  | zero =>
    intro w lw hw hl
    have e : w = 32 * B := by omega
    subst e
    refine V.brT rfl rfl (nI_le (Nat.le_refl _) (by omega)) ?_
    exact V.lt 5 rfl (kk lw hl)
  | succ m ih =>
    intro w lw hw hlw
    have hwB : w < 32 * B := by omega
    have skip : w ∉ T2 → V none 94 Q (0, 0) 85 [(0, .ref 19), (1, .int bf), (2, .int fr), (3, .int (nI 1)), (4, .int lw), (5, .int (nI w))] [] (wM c B a v) := by
      intro hn
      refine V.run 20 rfl ?_
      refine V.brT rfl rfl i0_eq0 ?_
      refine V.run 20 rfl ?_
      rw [nI_add, pk_mul]
      refine V.lt 6 rfl ?_
      refine ih (w + 1) lw (by omega) ?_
      rcases hlw with ⟨h1, h2⟩ | ⟨l, h1, h2, h3, h4⟩
      · refine Or.inl ⟨h1, fun u hu => ?_⟩
        by_cases q : u = w
        · rw [q]; exact hn
        · exact h2 u (by omega)
      · refine Or.inr ⟨l, h1, h2, by omega, fun u hu hut => ?_⟩
        by_cases q : u = w
        · exact absurd (q ▸ hut) hn
        · exact h4 u (by omega) hut
    refine V.brF rfl rfl (nI_ge hwB (by omega)) ?_
    refine V.run 20 rfl ?_
    refine V.iald rfl rfl rfl (show w < 512 by omega) (by omega) ?_
    refine V.run 20 rfl ?_
    refine V.br rfl rfl (fun h => ?_) (fun h => ?_)
    · refine V.lt 6 rfl (skip (fun q => ?_))
      have := ((hT2 w hwB).mp q).2.2
      exact absurd h (Int32.not_le.mpr this)
    · refine V.run 20 rfl ?_
      rcases hwt w hwB with h0 | h1
      · refine V.zalE rfl rfl rfl (show w < 512 by omega) (by omega) h0 ?_
        refine V.brT rfl rfl rfl ?_
        refine V.lt 6 rfl (skip (fun q => ?_))
        rw [((hT2 w hwB).mp q).1] at h0
        exact absurd h0 (by decide)
      · refine V.zalE rfl rfl rfl (show w < 512 by omega) (by omega) h1 ?_
        refine V.brF rfl rfl (by decide) ?_
        refine V.run 20 rfl ?_
        by_cases hL : w ∈ L
        · refine V.iald rfl rfl rfl (show w < 512 by omega) (by omega) ?_
          refine V.run 20 rfl ?_
          refine V.brT rfl rfl (hW.not hl hL) ?_
          exact V.lt 6 rfl (skip (fun q => ((hT2 w hwB).mp q).2.1 hL))
        · have hin : w ∈ T2 := (hT2 w hwB).mpr ⟨h1, hL, Int32.not_le.mp h⟩
          refine V.ialE rfl rfl rfl (show w < 512 by omega) (by omega) (hW.2.2.1 w hwB hL) ?_
          refine V.run 20 rfl ?_
          refine V.brF rfl rfl (fun h => h rfl) ?_
          refine V.run 20 rfl ?_
          refine V.brF rfl rfl i1_ne0 ?_
          refine V.run 20 rfl ?_
          rcases hlw with ⟨rfl, h2⟩ | ⟨l, rfl, h2, h3, h4⟩
          · refine V.brT rfl rfl rfl ?_
            refine V.run 20 rfl ?_
            rw [nI_add, pk_mul]
            refine V.lt 6 rfl ?_
            refine ih (w + 1) (nI w) (by omega) (Or.inr ⟨w, rfl, hin, by omega, fun u hu hut => ?_⟩)
            by_cases q : u = w
            · rw [q]; exact Int32.le_refl _
            · exact absurd hut (h2 u (by omega))
          · refine V.brF rfl rfl (nI_m1 (by omega)) ?_
            refine V.run 20 rfl ?_
            refine V.iald rfl rfl rfl (show w < 512 by omega) (by omega) ?_
            refine V.run 20 rfl ?_
            refine V.iald rfl rfl rfl (show l < 512 by omega) (by omega) ?_
            refine V.br rfl rfl (fun hge => ?_) (fun hlt => ?_)
            · refine V.run 20 rfl ?_
              rw [nI_add, pk_mul]
              refine V.lt 6 rfl ?_
              refine ih (w + 1) (nI l) (by omega) (Or.inr ⟨l, rfl, h2, by omega, fun u hu hut => ?_⟩)
              by_cases q : u = w
              · rw [q]; exact hge
              · exact h4 u (by omega) hut
            · refine V.run 20 rfl ?_
              rw [nI_add, pk_mul]
              refine V.lt 6 rfl ?_
              refine ih (w + 1) (nI w) (by omega) (Or.inr ⟨w, rfl, hin, by omega, fun u hu hut => ?_⟩)
              by_cases q : u = w
              · rw [q]; exact Int32.le_refl _
              · exact Int32.le_of_lt (i32_tl (Int32.not_le.mp hlt) (h4 u (by omega) hut))
end MN
