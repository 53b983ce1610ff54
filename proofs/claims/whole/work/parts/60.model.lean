/-! THE REFERENCE: its cells, behind nineteen others c. a: 0 sort, 1 unswept, 2 name, 3 fields, 4 marked, 5 watched, 6 kind, 7 value, 8 root, 9 queue, 10 row, 11 place; v: 0 thrown, 1 made, 2 marks, 3 sweeps, 4 queued, 5 size -/
def wM (c : Nat → xC) (B : Nat) (a : Nat → Nat → Int32) (v : Nat → Int32) : xW :=
  c 0 :: c 1 :: c 2 :: c 3 :: c 4 :: c 5 :: c 6 :: c 7 :: c 8 :: c 9 :: c 10 :: c 11 :: c 12 :: c 13 :: c 14 :: c 15 :: c 16 :: c 17 :: c 18 ::
  .inr (5, [.int (v 0), .int (nI B), .int (v 1), .int (v 2), .int (v 3), .ref 20, .ref 21, .ref 22, .ref 23, .ref 24, .ref 25, .ref 26, .ref 27, .ref 28, .int (v 4), .ref 29, .int (v 5), .ref 30, .ref 31]) ::
  .inl (false, 16, a 0) :: .inl (true, 16, a 1) :: .inl (false, 512, a 2) :: .inl (false, 512, a 3) :: .inl (true, 512, a 4) :: .inl (true, 512, a 5) :: .inl (false, 512, a 6) :: .inl (false, 512, a 7) :: .inl (false, 16, a 8) :: .inl (false, 512, a 9) :: .inl (false, 512, a 10) :: .inl (false, 512, a 11) :: []
theorem m_in1 {w : xW} {j h : Nat} (hj : j ≤ h) (hh : h < 2 ^ 31) : Tot none kX5_in [.int (nI j), .int (nI 0), .int (nI h)] w (rI (nI 1) w) := by
  refine eX5_in ?_
  refine V.run 20 rfl ?_
  refine V.brF rfl rfl (nI_nlt (Nat.zero_le j) (by omega)) ?_
  refine V.run 20 rfl ?_
  refine V.brF rfl rfl (nI_nlt hj hh) ?_
  refine V.run 20 rfl ?_
  exact V.rz rfl (Or.inr rfl) ⟨rfl, rfl⟩
theorem m_in0 {w : xW} {x : Int32} {h : Nat} (hh : h + 1 < 2 ^ 31) (hx : x < 0 ∨ nI (h + 1) ≤ x) : Tot none kX5_in [.int x, .int (nI 0), .int (nI h)] w (rI (nI 0) w) := by
  refine eX5_in ?_
  refine V.run 20 rfl ?_
  refine V.br rfl rfl (fun _ => ?_) (fun h => ?_)
  · refine V.run 20 rfl ?_
    exact V.rz rfl (Or.inl rfl) ⟨rfl, rfl⟩
  · refine V.run 20 rfl ?_
    have h6 := hx.resolve_left h
    refine V.brT rfl rfl (by
      rw [Int32.le_iff_toInt_le, nI_toInt hh] at h6
      rw [Int32.lt_iff_toInt_lt, nI_toInt (by omega)]
      omega) ?_
    refine V.run 20 rfl ?_
    exact V.rz rfl (Or.inl rfl) ⟨rfl, rfl⟩
theorem m_isRoot1 {w : xW} {i : Nat} (hi : i < 16) : Tot none kX5_isRoot [.int (nI i)] w (rI (nI 1) w) := by
  refine eX5_isRoot ?_
  refine V.run 20 rfl ?_
  refine V.cs rfl (m_in1 (show i ≤ 15 by omega) (by omega)) rfl ?_
  rintro _ _ ⟨rfl, rfl⟩
  exact V.rz rfl (Or.inr rfl) ⟨rfl, rfl⟩
theorem m_isRoot0 {w : xW} {x : Int32} (hx : x < 0 ∨ nI 16 ≤ x) : Tot none kX5_isRoot [.int x] w (rI (nI 0) w) := by
  refine eX5_isRoot ?_
  refine V.run 20 rfl ?_
  refine V.cs rfl (m_in0 (h := 15) (by omega) hx) rfl ?_
  rintro _ _ ⟨rfl, rfl⟩
  exact V.rz rfl (Or.inl rfl) ⟨rfl, rfl⟩
theorem m_cellOf {w : xW} {c : Nat} (hc : c < 4) : Tot none kX5_cellOf [.int (nI c)] w (rI (nI (cwd c)) w) := by
  refine eX5_cellOf ?_
  refine V.run 10 rfl ?_
  rw [cw_i c hc]
  exact V.ri rfl ⟨rfl, rfl⟩
section MW
variable {c : Nat → xC} {B : Nat} {a : Nat → Nat → Int32} {v : Nat → Int32}
theorem m_begin (hB : B ≤ 16) : Tot none kX5_begin [.ref 19] (wM c B a v) (fun o w' => o = none ∧ ∃ g, w' = wM c B (setA a 11 g) (uV v 5 (nI 0)) ∧ ∀ x, x < 512 → g x = -1) := by
  have loop : ∀ (m i : Nat) (g : Nat → Int32), i + m = 512 → (∀ x, x < i → g x = -1) → V none 89 (fun o w' => o = none ∧ ∃ g, w' = wM c B (setA a 11 g) (uV v 5 (nI 0)) ∧ ∀ x, x < 512 → g x = -1) (0, 0) 11 [(0, .ref 19), (1, .int (nI i))] [.int (nI 512), .int (nI i)] (wM c B (setA a 11 g) (uV v 5 (nI 0))) := by
    intro m
    induction m with
    | zero =>
      intro i g hi hg
      refine V.brT rfl rfl (nI_le (by omega) (by omega)) ?_
      exact V.rv rfl ⟨rfl, g, rfl, fun x hx => hg x (by omega)⟩
    | succ m ih =>
      intro i g hi hg
      refine V.brF rfl rfl (nI_ge (show i < 512 by omega) (by omega)) ?_
      refine V.run 10 rfl ?_
      refine V.iast (w' := wM c B (setA a 11 (upd g i (-1))) (uV v 5 (nI 0))) rfl rfl rfl (show i < 512 by omega) (by omega) rfl ?_
      refine V.run 10 rfl ?_
      rw [nI_add]
      refine ih (i + 1) _ (by omega) (fun x hx => ?_)
      by_cases q : x = i
      · subst q; exact upd_s
      · rw [upd_n q]; exact hg x (by omega)
  refine eX5_begin ?_
  refine V.run 10 rfl ?_
  refine V.puti (w' := wM c B a (uV v 5 (nI 0))) rfl rfl rfl ?_
  refine V.run 10 rfl ?_
  exact loop 512 0 (a 11) (by omega) (fun x hx => absurd hx (Nat.not_lt_zero x))
theorem m_meet0 : Tot none kX5_meet [.ref 19, .int (-1)] (wM c B a v) (rN (wM c B a v)) := by
  refine eX5_meet ?_
  refine V.run 10 rfl ?_
  refine V.brT rfl rfl rfl ?_
  exact V.rv rfl ⟨rfl, rfl⟩
/-- the world behind walking -/
abbrev wMk (c : Nat → xC) (B : Nat) (a : Nat → Nat → Int32) (v : Nat → Int32) (f g : Nat → Int32) (n : Int32) : xW := wM c B (setA (setA a 10 f) 11 g) (uV v 5 n)
theorem m_meet (hB : B ≤ 16) {x : Nat} {L : List Nat} (hx : x < 32 * B) (hW : Wk (32 * B) L (a 10) (a 11) (v 5)) (hl : L.length ≤ 16 * B) : Tot none kX5_meet [.ref 19, .int (nI x)] (wM c B a v) (fun o w' => o = none ∧ ∃ f g n, w' = wMk c B a v f g n ∧ Wk (32 * B) (ins L x) f g n) := by
  refine eX5_meet ?_
  refine V.run 10 rfl ?_
  refine V.brF rfl rfl (nI_m1 (by omega)) ?_
  refine V.run 10 rfl ?_
  refine V.iald rfl rfl rfl (show x < 512 by omega) (by omega) ?_
  refine V.run 10 rfl ?_
  refine V.br rfl rfl (fun h2 => ?_) (fun h2 => ?_)
  · have hm : x ∈ L := by
      by_cases q : x ∈ L
      · exact q
      · exact absurd (hW.2.2.1 x hx q) h2
    exact V.rv rfl ⟨rfl, _, _, _, rfl, by rw [ins_id hm]; exact hW⟩
  · have hm : x ∉ L := fun q => h2 (hW.not (by omega) q)
    have hs := hW.1
    refine V.run 10 rfl ?_
    refine V.iast (w' := wM c B (uA a 11 x (v 5)) v) rfl rfl rfl (show x < 512 by omega) (by omega) rfl ?_
    refine V.run 10 rfl ?_
    refine V.iast (j := L.length) (w' := wM c B (uA (uA a 11 x (v 5)) 10 L.length (nI x)) v) rfl rfl hs (show L.length < 512 by omega) (by omega) rfl ?_
    refine V.run 10 rfl ?_
    refine V.puti (w' := wM c B (uA (uA a 11 x (v 5)) 10 L.length (nI x)) (uV v 5 (v 5 + nI 1))) rfl rfl rfl ?_
    have hA := hW.add hx hm
    refine V.rv rfl ⟨rfl, upd (a 10) L.length (nI x), upd (a 11) x (v 5), v 5 + nI 1, rfl, ?_⟩
    rw [← hs] at hA
    exact hA
theorem m_follow_in (hB : B ≤ 16) {G : Nat → Prop} (hp : hpOK (32 * B) (a 3) (a 6) (a 7) G) {x m i : Nat} (hx : G x) (hm : a 3 x = nI m) (hm15 : m ≤ 15) {Q : Option Value → xW → Prop} : ∀ (q j : Nat) (L : List Nat) (f g : Nat → Int32) (n : Int32), j + q = m → L[i]? = some x → Wk (32 * B) L f g n → Wg B G L →
    (∀ L' f' g' n', L' = insL L (tgc (a 6) (a 7) x j q) → Wk (32 * B) L' f' g' n' → Wg B G L' → V none 91 Q (0, 0) 71 [(0, .ref 19), (1, .int (nI i)), (2, .int (nI (m + 1)))] [] (wMk c B a v f' g' n')) →
    V none 91 Q (0, 0) 22 [(0, .ref 19), (1, .int (nI i)), (2, .int (nI (j + 1)))] [.int (nI i), .ref 30, .ref 23, .int (nI (j + 1))] (wMk c B a v f g n) := by
  obtain ⟨hxN, -, m', hm', hf', hmN, hj'⟩ := hp x hx
  have e : m' = m := nI_inj (by omega) (by omega) (hf'.symm.trans hm)
  subst e
  intro q
  induction q with
  | zero =>
    intro j L f g n hj hi hW hG kk
    have kk := kk L f g n rfl hW hG
    have e : j = m' := by omega
    subst e
    have hil := (List.getElem?_eq_some_iff.mp hi).1
    have hlen := hG.len hp
    refine V.ialE rfl rfl rfl (show i < 512 by omega) (by omega) (hW.2.1 i x hi).1 ?_
    refine V.ialE rfl rfl rfl (show x < 512 by omega) (by omega) hm ?_
    refine V.brT rfl rfl (nI_lt (by omega) (by omega)) ?_
    exact kk
  | succ q ih =>
    intro j L f g n hj hi hW hG kk
    have hil := (List.getElem?_eq_some_iff.mp hi).1
    have hlen := hG.len hp
    have hjN : x + 1 + j < 32 * B := by omega
    have hjm := hj' j (by omega)
    have hfx := (hW.2.1 i x hi).1
    refine V.ialE rfl rfl rfl (show i < 512 by omega) (by omega) hfx ?_
    refine V.ialE rfl rfl rfl (show x < 512 by omega) (by omega) hm ?_
    refine V.brF rfl rfl (nI_nlt (by omega) (by omega)) ?_
    refine V.run 20 rfl ?_
    refine V.ialE rfl rfl rfl (show i < 512 by omega) (by omega) hfx ?_
    refine V.run 20 rfl ?_
    refine V.iald (j := x + 1 + j) rfl rfl (by rw [nI_add]; congr 1; omega) (show x + 1 + j < 512 by omega) (by omega) ?_
    refine V.run 20 rfl ?_
    by_cases h1 : a 6 (x + 1 + j) = 1
    · obtain ⟨y, hy, hyG⟩ : ∃ y, a 7 (x + 1 + j) = nI y ∧ G y := by
        rcases hjm with h0 | ⟨-, h⟩
        · rw [h0] at h1; exact absurd h1 (by decide)
        · exact h
      have hyN := (hp y hyG).1
      rw [tgc_1 h1 hy (by omega)] at kk
      refine V.brF rfl rfl (fun h => h h1) ?_
      refine V.run 20 rfl ?_
      refine V.ialE rfl rfl rfl (show i < 512 by omega) (by omega) hfx ?_
      refine V.run 20 rfl ?_
      refine V.ialE (j := x + 1 + j) rfl rfl (by rw [nI_add]; congr 1; omega) (show x + 1 + j < 512 by omega) (by omega) hy ?_
      refine V.run 20 rfl ?_
      refine V.cv rfl (m_meet hB hyN hW hlen) rfl rfl ?_
      rintro _ _ ⟨rfl, f', g', n', rfl, hW'⟩
      refine V.run 20 rfl ?_
      rw [nI_add]
      exact ih (j + 1) _ f' g' n' (by omega) (ins_get hi) hW' (hG.add1 hyG) kk
    · rw [tgc_0 h1] at kk
      refine V.brT rfl rfl h1 ?_
      refine V.run 20 rfl ?_
      refine V.cv rfl m_meet0 rfl rfl ?_
      rintro _ _ ⟨rfl, rfl⟩
      refine V.run 20 rfl ?_
      rw [nI_add]
      exact ih (j + 1) L f g n (by omega) hi hW hG kk
theorem m_follow (hB : B ≤ 16) {G : Nat → Prop} (hp : hpOK (32 * B) (a 3) (a 6) (a 7) G) {L : List Nat} (hW : Wk (32 * B) L (a 10) (a 11) (v 5)) (hG : Wg B G L) :
    Tot none kX5_follow [.ref 19] (wM c B a v) (fun o w' => o = none ∧ ∃ f g n, w' = wMk c B a v f g n ∧ Wk (32 * B) (fol (tgs (a 3) (a 6) (a 7)) (16 * B + 1) 0 L) f g n ∧ Wg B G (fol (tgs (a 3) (a 6) (a 7)) (16 * B + 1) 0 L)) := by
  have loop : ∀ (m i : Nat) (L R : List Nat) (f g : Nat → Int32) (n : Int32), i + m = 16 * B + 1 → i ≤ L.length → Wk (32 * B) L f g n → Wg B G L → R = fol (tgs (a 3) (a 6) (a 7)) m i L →
      V none 91 (fun o w' => o = none ∧ ∃ f g n, w' = wMk c B a v f g n ∧ Wk (32 * B) R f g n ∧ Wg B G R) (0, 0) 7 [(0, .ref 19), (1, .int (nI i))] [.int n, .int (nI i)] (wMk c B a v f g n) := by
    intro m
    induction m with
    | zero =>
      intro i L R f g n him hiL hW1 hG1 hR
      have := hG1.len hp
      omega
    | succ m ih =>
      intro i L R f g n him hiL hW1 hG1 hR
      have hlen := hG1.len hp
      have hn := hW1.1
      subst hn
      by_cases hlt : i < L.length
      · obtain ⟨x, hx⟩ : ∃ x, L[i]? = some x := ⟨_, List.getElem?_eq_getElem hlt⟩
        have hxG := hG1.2 x (List.mem_of_getElem? hx)
        obtain ⟨hxN, -, q, hq15, hfq, -, -⟩ := hp x hxG
        have hR' : R = fol (tgs (a 3) (a 6) (a 7)) m (i + 1) (insL L (tgc (a 6) (a 7) x 0 q)) := by
          rw [hR, fol, if_pos hlt, List.getD_eq_getElem?_getD, hx, ← tgs_tgc hfq hq15]
          rfl
        refine V.brF rfl rfl (nI_ge hlt (by omega)) ?_
        refine V.run 20 rfl ?_
        refine m_follow_in hB hp hxG hfq hq15 q 0 L f g _ (by omega) hx hW1 hG1 (fun L' f' g' n' hL' hW' hG' => ?_)
        refine V.run 20 rfl ?_
        rw [nI_add]
        refine V.lt 2 rfl ?_
        refine ih (i + 1) L' R f' g' n' (by omega) ?_ hW' hG' (by rw [hL']; exact hR')
        obtain ⟨M, hM⟩ := insL_pre (tgc (a 6) (a 7) x 0 q) L
        rw [hL', hM, List.length_append]
        omega
      · have hR' : R = L := by rw [hR, fol, if_neg hlt]
        subst hR'
        refine V.brT rfl rfl (nI_le (by omega) (by omega)) ?_
        exact V.rv rfl ⟨rfl, f, g, _, rfl, hW1, hG1⟩
  refine eX5_follow ?_
  refine V.run 20 rfl ?_
  exact loop (16 * B + 1) 0 L _ (a 10) (a 11) (v 5) (by omega) (Nat.zero_le _) hW hG rfl
theorem m_reach (hB : B ≤ 16) {G : Nat → Prop} (hp : hpOK (32 * B) (a 3) (a 6) (a 7) G) (hr : rtOK (a 8) G) {Qs : List Nat} (hq : Ql Qs (a 9) (v 4)) (hqG : Wg B G Qs) :
    Tot none kX5_reach [.ref 19] (wM c B a v) (fun o w' => o = none ∧ ∃ f g n, w' = wMk c B a v f g n ∧ Wk (32 * B) (mL1 B (a 3) (a 6) (a 7) (a 8) Qs) f g n ∧ Wg B G (mL1 B (a 3) (a 6) (a 7) (a 8) Qs)) := by
  have hql := hqG.len hp
  have loop2 : ∀ (q j : Nat) (L : List Nat) (f g : Nat → Int32) (n : Int32), j + q = Qs.length → Wk (32 * B) L f g n → Wg B G L → insL L (Qs.drop j) = heldL (a 8) Qs →
      V none 92 (fun o w' => o = none ∧ ∃ f g n, w' = wMk c B a v f g n ∧ Wk (32 * B) (mL1 B (a 3) (a 6) (a 7) (a 8) Qs) f g n ∧ Wg B G (mL1 B (a 3) (a 6) (a 7) (a 8) Qs)) (0, 0) 35 [(0, .ref 19), (1, .int (nI j))] [.int (v 4), .int (nI j)] (wMk c B a v f g n) := by
    intro q
    induction q with
    | zero =>
      intro j L f g n hj hW hG hh
      have e : Qs.drop j = [] := List.drop_eq_nil_of_le (by omega)
      rw [e, insL_nil] at hh
      subst hh
      refine V.brT rfl rfl (le_eq hq.1 (by omega) (by omega)) ?_
      refine V.run 20 rfl ?_
      refine V.cv rfl (m_follow hB (G := G) (by exact hp) (by exact hW) hG) rfl rfl ?_
      rintro _ _ ⟨rfl, f', g', n', rfl, hW', hG'⟩
      exact V.rv rfl ⟨rfl, f', g', n', rfl, hW', hG'⟩
    | succ q ih =>
      intro j L f g n hj hW hG hh
      obtain ⟨x, hx⟩ : ∃ x, Qs[j]? = some x := ⟨_, List.getElem?_eq_getElem (by omega)⟩
      have e : Qs.drop j = x :: Qs.drop (j + 1) := by
        obtain ⟨h1, h2⟩ := List.getElem?_eq_some_iff.mp hx
        rw [← h2]
        exact List.drop_eq_getElem_cons h1
      rw [e, insL_cons] at hh
      have hxG := hqG.2 x (List.mem_of_getElem? hx)
      have hxN := (hp x hxG).1
      refine V.brF rfl rfl (fun h => nI_ge (show j < Qs.length by omega) (by omega) (hq.1 ▸ h)) ?_
      refine V.run 20 rfl ?_
      refine V.ialE rfl rfl rfl (show j < 512 by omega) (by omega) (hq.2 j x hx) ?_
      refine V.cv rfl (m_meet hB hxN hW (hG.len hp)) rfl rfl ?_
      rintro _ _ ⟨rfl, f', g', n', rfl, hW'⟩
      refine V.run 20 rfl ?_
      rw [nI_add]
      exact ih (j + 1) _ f' g' n' (by omega) hW' (hG.add1 hxG) hh
  have loop1 : ∀ (q j : Nat) (L : List Nat) (f g : Nat → Int32) (n : Int32), j + q = 16 → Wk (32 * B) L f g n → Wg B G L → insL (insL L (rts (a 8) j q)) Qs = heldL (a 8) Qs →
      V none 92 (fun o w' => o = none ∧ ∃ f g n, w' = wMk c B a v f g n ∧ Wk (32 * B) (mL1 B (a 3) (a 6) (a 7) (a 8) Qs) f g n ∧ Wg B G (mL1 B (a 3) (a 6) (a 7) (a 8) Qs)) (0, 0) 9 [(0, .ref 19), (1, .int (nI j))] [.int (nI 16), .int (nI j)] (wMk c B a v f g n) := by
    intro q
    induction q with
    | zero =>
      intro j L f g n hj hW hG hh
      have e : rts (a 8) j 0 = [] := rfl
      rw [e, insL_nil] at hh
      refine V.brT rfl rfl (nI_le (by omega) (by omega)) ?_
      refine V.run 20 rfl ?_
      exact loop2 Qs.length 0 L f g n (by omega) hW hG hh
    | succ q ih =>
      intro j L f g n hj hW hG hh
      refine V.brF rfl rfl (nI_ge (show j < 16 by omega) (by omega)) ?_
      refine V.run 20 rfl ?_
      rcases hr j (by omega) with h0 | ⟨x, hx, hxG⟩
      · rw [rts_0 h0] at hh
        refine V.ialE rfl rfl rfl (show j < 16 by omega) (by omega) h0 ?_
        refine V.cv rfl m_meet0 rfl rfl ?_
        rintro _ _ ⟨rfl, rfl⟩
        refine V.run 20 rfl ?_
        rw [nI_add]
        exact ih (j + 1) L f g n (by omega) hW hG hh
      · have hxN := (hp x hxG).1
        rw [rts_1 hx (by omega), insL_cons] at hh
        refine V.ialE rfl rfl rfl (show j < 16 by omega) (by omega) hx ?_
        refine V.cv rfl (m_meet hB hxN hW (hG.len hp)) rfl rfl ?_
        rintro _ _ ⟨rfl, f', g', n', rfl, hW'⟩
        refine V.run 20 rfl ?_
        rw [nI_add]
        exact ih (j + 1) _ f' g' n' (by omega) hW' (hG.add1 hxG) hh
  refine eX5_reach ?_
  refine V.run 20 rfl ?_
  refine V.cv rfl (m_begin hB) rfl rfl ?_
  rintro _ _ ⟨rfl, g, rfl, hg⟩
  refine V.run 20 rfl ?_
  exact loop1 16 0 [] (a 10) g (nI 0) (by omega) (Wk.nil (fun x hx => hg x (by omega))) ⟨List.nodup_nil, fun y h => by simp at h⟩ rfl
end MW
