section MS
variable {cc : Nat → xC} {B : Nat} {a : Nat → Nat → Int32} {v : Nat → Int32}
/-- an object's fields, for the sum -/
theorem m_sumIn (hB : B ≤ 16) {G : Nat → Prop} (hp : hpOK (32 * B) (a 3) (a 6) (a 7) G) {L : List Nat} (hW : Wk (32 * B) L (a 10) (a 11) (v 5)) (hG : Wg B G L) {x k i m : Nat} (hx : G x) (hf : a 3 x = nI m) (hm : m ≤ 15) (hcl : ∀ y ∈ tgs (a 3) (a 6) (a 7) x, y ∈ L) {z : Int64} {Q : Option Value → xW → Prop}
    (kk : V none 122 Q (0, 0) 181 [(0, .ref 19), (1, .int (nI i)), (2, .long (sFl (fun j => sTm (a 6) (a 7) L (x + 1 + j)) z m)), (4, .int (nI k))] [] (wM cc B a v)) :
    ∀ (q j : Nat), j + q = m → V none 122 Q (0, 0) 102 [(0, .ref 19), (1, .int (nI i)), (2, .long (sFl (fun j => sTm (a 6) (a 7) L (x + 1 + j)) z j)), (4, .int (nI k)), (5, .int (nI x)), (6, .int (nI (x + 1 + j)))] [.int (nI x), .ref 23, .int (nI x), .int (nI (x + 1 + j))] (wM cc B a v) := by
  obtain ⟨hxN, -, m', hm', hf', hmN, hj'⟩ := hp x hx
  have e : m' = m := nI_inj (by omega) (by omega) (hf'.symm.trans hf)
  subst e
  have hlen := hG.len hp
  intro q
  induction q with
  | zero =>
    intro j hj
    have e : j = m' := by omega
    subst e
    refine V.ialE rfl rfl rfl (show x < 512 by omega) (by omega) hf ?_
    refine V.run 20 rfl ?_
    rw [nI_add]
    refine V.brT rfl rfl (nI_lt (by omega) (by omega)) ?_
    exact V.lt 4 rfl kk
  | succ q ih =>
    intro j hj
    have hjN : x + 1 + j < 32 * B := by omega
    have ih := ih (j + 1) (by omega)
    rw [sFl] at ih
    have hjm := hj' j (by omega)
    refine V.ialE rfl rfl rfl (show x < 512 by omega) (by omega) hf ?_
    refine V.run 20 rfl ?_
    rw [nI_add]
    refine V.brF rfl rfl (nI_nlt (by omega) (by omega)) ?_
    refine V.run 20 rfl ?_
    rcases hjm with h0 | ⟨h12, y, hy, hyG⟩
    · have et : sTm (a 6) (a 7) L (x + 1 + j) = lN 3 * (a 7 (x + 1 + j)).toInt64 := by unfold sTm; rw [if_pos h0]
      rw [et] at ih
      refine V.ialE rfl rfl rfl (show x + 1 + j < 512 by omega) (by omega) h0 ?_
      refine V.brF rfl rfl (fun h => h rfl) ?_
      refine V.run 20 rfl ?_
      refine V.iald rfl rfl rfl (show x + 1 + j < 512 by omega) (by omega) ?_
      refine V.run 20 rfl ?_
      rw [nI_add]
      exact ih
    · rcases h12 with h1 | h2
      · have hyN := (hp y hyG).1
        have hyL : y ∈ L := hcl y (by
          rw [tgs_tgc hf hm]
          unfold tgc
          refine List.mem_filterMap.mpr ⟨j, List.mem_range'_1.mpr ⟨by omega, by omega⟩, ?_⟩
          rw [if_pos h1, hy, nI_clamp (by omega)])
        obtain ⟨r, hr⟩ := List.getElem?_of_mem hyL
        have et : sTm (a 6) (a 7) L (x + 1 + j) = lN 3 * (nI r).toInt64 + lN 1 := by
          unfold sTm
          rw [if_neg (show ¬ a 6 (x + 1 + j) = 0 by rw [h1]; decide), if_pos h1, hy, nI_clamp (by omega), rkN_get hG.1 hr]
        rw [et] at ih
        refine V.ialE rfl rfl rfl (show x + 1 + j < 512 by omega) (by omega) h1 ?_
        refine V.brT rfl rfl (by decide) ?_
        refine V.run 20 rfl ?_
        refine V.ialE rfl rfl rfl (show x + 1 + j < 512 by omega) (by omega) h1 ?_
        refine V.run 20 rfl ?_
        refine V.brF rfl rfl (fun h => h rfl) ?_
        refine V.run 20 rfl ?_
        refine V.ialE rfl rfl rfl (show x + 1 + j < 512 by omega) (by omega) hy ?_
        refine V.ialE rfl rfl rfl (show y < 512 by omega) (by omega) (hW.2.1 r y hr).2 ?_
        refine V.run 20 rfl ?_
        rw [nI_add]
        exact ih
      · have et : sTm (a 6) (a 7) L (x + 1 + j) = lN 2 := by
          unfold sTm
          rw [if_neg (show ¬ a 6 (x + 1 + j) = 0 by rw [h2]; decide), if_neg (show ¬ a 6 (x + 1 + j) = 1 by rw [h2]; decide)]
        rw [et] at ih
        refine V.ialE rfl rfl rfl (show x + 1 + j < 512 by omega) (by omega) h2 ?_
        refine V.brT rfl rfl (by decide) ?_
        refine V.run 20 rfl ?_
        refine V.ialE rfl rfl rfl (show x + 1 + j < 512 by omega) (by omega) h2 ?_
        refine V.run 20 rfl ?_
        refine V.brT rfl rfl (by decide) ?_
        refine V.run 20 rfl ?_
        rw [nI_add]
        exact ih
theorem m_sum (hB : B ≤ 16) {n : Nat} {s : AS} (hI : Inv B n s) (hr : RepM B a v s) (root : Int32) : Tot none kX5_sum [.ref 19, .int root] (wM cc B a v) (fun o w' => o = some (.long (opSum B s root)) ∧ ∃ a' v', w' = wM cc B a' v' ∧ RepM B a' v' s) := by
  refine eX5_sum ?_
  refine V.run 20 rfl ?_
  refine V.puti (w' := wM cc B a (uV v 0 (nI 0))) rfl rfl rfl ?_
  have hr : RepM B a (uV v 0 (nI 0)) s := hr
  generalize uV v 0 (nI 0) = v at hr ⊢
  refine V.run 20 rfl ?_
  have hp := hpM hI hr
  have hag := hr.ag
  obtain ⟨h1, h2, h3, h4, h5, h6, h7, h8, h9⟩ := id hr
  unfold opSum
  rcases ixN_or (n := 16) (by omega) root with ⟨hbad, e⟩ | ⟨i, hi, rfl, e⟩
  · rw [e]
    refine V.cs rfl (m_isRoot0 hbad) rfl ?_
    rintro _ _ ⟨rfl, rfl⟩
    refine V.brF rfl rfl (fun h => h i0_eq0) ?_
    refine V.run 20 rfl ?_
    exact V.rl rfl ⟨rfl, a, v, rfl, hr⟩
  · rw [e]
    dsimp only
    refine V.cs rfl (m_isRoot1 hi) rfl ?_
    rintro _ _ ⟨rfl, rfl⟩
    refine V.brT rfl rfl i1_ne0 ?_
    refine V.run 20 rfl ?_
    refine V.ialE rfl rfl rfl hi (by omega) (h5 i hi) ?_
    refine V.run 20 rfl ?_
    rcases hI.2.2.1 i hi with h0 | ⟨x, hx, hs⟩
    · refine V.brF rfl rfl (fun h => h h0) ?_
      refine V.run 20 rfl ?_
      exact V.rl rfl ⟨by rw [if_pos h0]; rfl, a, v, rfl, hr⟩
    · have hxN := hs.1
      have hN : 32 * B < 2 ^ 31 := by omega
      have hW0 : Wg B (safe B s) [x] := ⟨by simp, fun y hy => by simp at hy; rw [hy]; exact hs⟩
      have fc := fol_closed hp hN (16 * B + 1) 0 [x] (by omega) (Nat.zero_le _) hW0 (fun k x hk => absurd hk (Nat.not_lt_zero k))
      have fg := fol_congr (fun x hx => tgs_congr hp hN hag hx) (fun x y hx hy => tgs_G hp hN hx hy) (16 * B + 1) 0 [x] hW0.2
      rw [hx, if_neg (nI_m1 (by omega)), nI_clamp (by omega), ← fg.1]
      generalize hLL : fol (tgs (a 3) (a 6) (a 7)) (16 * B + 1) 0 [x] = LL at fc fg
      rw [← sAll_congr hp hag fc.1.2 LL.length (Nat.le_refl _)]
      have hlen := fc.1.len hp
      refine V.brT rfl rfl (nI_m1 (by omega)) ?_
      refine V.run 20 rfl ?_
      refine V.cv rfl (m_begin hB) rfl rfl ?_
      rintro _ _ ⟨rfl, g0, rfl, hg0⟩
      refine V.run 20 rfl ?_
      refine V.ialE rfl rfl rfl hi (by omega) ((h5 i hi).trans hx) ?_
      refine V.cv rfl (m_meet hB (L := []) hxN (Wk.nil (fun y hy => hg0 y (by omega))) (by simp)) rfl rfl ?_
      rintro _ _ ⟨rfl, f1, g1, n1, rfl, hW1⟩
      refine V.run 20 rfl ?_
      refine V.cv rfl (m_follow hB (G := safe B s) (L := [x]) (by exact hp) (by exact hW1) hW0) rfl rfl ?_
      rintro _ _ ⟨rfl, f2, g2, n2, rfl, hW2, hG2⟩
      have hW2 : Wk (32 * B) LL f2 g2 n2 := hLL ▸ hW2
      refine V.run 20 rfl ?_
      have loop : ∀ (c k : Nat), k + c = LL.length → V none 122 (fun o w' => o = some (.long (sAll (a 3) (a 6) (a 7) LL LL.length)) ∧ ∃ a' v', w' = wM cc B a' v' ∧ RepM B a' v' s) (0, 0) 59 [(0, .ref 19), (1, .int (nI i)), (2, .long (sAll (a 3) (a 6) (a 7) LL k)), (4, .int (nI k))] [.int n2, .int (nI k)] (wM cc B (setA (setA a 10 f2) 11 g2) (uV v 5 n2)) := by
        intro c
        induction c with
        | zero =>
          intro k hk
          have ek : k = LL.length := by omega
          subst ek
          refine V.brT rfl rfl (le_eq hW2.1 (Nat.le_refl _) (by omega)) ?_
          refine V.run 20 rfl ?_
          exact V.rl rfl ⟨rfl, _, _, rfl, h1, h2, h3, h4, h5, h6, h7, h8, h9⟩
        | succ c ih =>
          intro k hk
          have ih := ih (k + 1) (by omega)
          have hkl : k < LL.length := by omega
          obtain ⟨y, hy⟩ : ∃ y, LL[k]? = some y := ⟨_, List.getElem?_eq_getElem hkl⟩
          have hyL := List.mem_of_getElem? hy
          have hyG := fc.1.2 y hyL
          obtain ⟨hyN, -, m, hm, hfm, -, -⟩ := hp y hyG
          have eg : LL.getD k 0 = y := by rw [List.getD_eq_getElem?_getD, hy]; rfl
          have es : sAll (a 3) (a 6) (a 7) LL (k + 1) = sFl (fun j => sTm (a 6) (a 7) LL (y + 1 + j)) (lN 31 * sAll (a 3) (a 6) (a 7) LL k + (nI m).toInt64) m := by rw [sAll, eg]; unfold sOb; rw [hfm, nI_clamp (by omega)]
          rw [es] at ih
          refine V.brF rfl rfl (fun h => nI_ge hkl (by omega) (hW2.1 ▸ h)) ?_
          refine V.run 20 rfl ?_
          refine V.ialE rfl rfl rfl (show k < 512 by omega) (by omega) (hW2.2.1 k y hy).1 ?_
          refine V.run 20 rfl ?_
          refine V.ialE rfl rfl rfl (show y < 512 by omega) (by omega) hfm ?_
          refine V.run 20 rfl ?_
          rw [nI_add]
          refine m_sumIn hB (G := safe B s) (L := LL) (k := k) (i := i) (x := y) (m := m) (z := lN 31 * sAll (a 3) (a 6) (a 7) LL k + (nI m).toInt64) (a := setA (setA a 10 f2) 11 g2) (v := uV v 5 n2) (by exact hp) (by exact hW2) fc.1 hyG hfm hm (by exact fc.2 y hyL) ?_ m 0 (by omega)
          refine V.run 20 rfl ?_
          rw [nI_add]
          exact ih
      exact loop LL.length 0 (by omega)
/-- the class of an object of m fields, as the reference has it -/
theorem m_cls {m : Nat} (hm : m ≤ 15) {r : Int32} {Q : Option Value → xW → Prop} (kk : V none 101 Q (0, 0) 67 [(0, .ref 19), (1, .int r), (2, .int (nI m))] [.int (nI (clsF m))] (wM cc B a v)) :
    V none 101 Q (0, 0) 38 [(0, .ref 19), (1, .int r), (2, .int (nI m))] [] (wM cc B a v) := by
  unfold clsF at kk
  refine V.run 20 rfl ?_
  by_cases h1 : m < 2
  · rw [if_pos h1] at kk
    refine V.brF rfl rfl (nI_ge h1 (by omega)) ?_
    refine V.run 2 rfl ?_
    exact kk
  · rw [if_neg h1] at kk
    refine V.brT rfl rfl (nI_le (by omega) (by omega)) ?_
    refine V.run 20 rfl ?_
    by_cases h2 : m < 4
    · rw [if_pos h2] at kk
      refine V.brF rfl rfl (nI_ge h2 (by omega)) ?_
      refine V.run 2 rfl ?_
      exact kk
    · rw [if_neg h2] at kk
      refine V.brT rfl rfl (nI_le (by omega) (by omega)) ?_
      refine V.run 20 rfl ?_
      by_cases h3 : m < 8
      · rw [if_pos h3] at kk
        refine V.brF rfl rfl (nI_ge h3 (by omega)) ?_
        refine V.run 2 rfl ?_
        exact kk
      · rw [if_neg h3] at kk
        refine V.brT rfl rfl (nI_le (by omega) (by omega)) ?_
        refine V.run 1 rfl ?_
        exact kk
/-- the fields of a new object -/
theorem m_zero {x m i : Nat} {c : Int32} (hx : x + 1 + m ≤ 512) (hm : m ≤ 15) {Q : Option Value → xW → Prop}
    (kk : V none 101 Q (0, 0) 183 [(0, .ref 19), (1, .int (nI i)), (2, .int (nI m)), (3, .int c), (4, .int (nI x))] [] (wM cc B (setA (setA a 6 (zr (a 6) x m)) 7 (zr (a 7) x m)) v)) :
    ∀ (q j : Nat), j + q = m → V none 101 Q (0, 0) 152 [(0, .ref 19), (1, .int (nI i)), (2, .int (nI m)), (3, .int c), (4, .int (nI x)), (5, .int (nI (j + 1)))] [.int (nI m), .int (nI (j + 1))] (wM cc B (setA (setA a 6 (zr (a 6) x j)) 7 (zr (a 7) x j)) v) := by
  intro q
  induction q with
  | zero =>
    intro j hj
    have e : j = m := by omega
    subst e
    refine V.brT rfl rfl (nI_lt (by omega) (by omega)) ?_
    exact V.lt 5 rfl kk
  | succ q ih =>
    intro j hj
    have ih := ih (j + 1) (by omega)
    rw [← zr_s (a 6) x j, ← zr_s (a 7) x j] at ih
    refine V.brF rfl rfl (nI_nlt (by omega) (by omega)) ?_
    refine V.run 20 rfl ?_
    rw [nI_add, show x + (j + 1) = x + 1 + j by omega]
    refine V.iast (w' := wM cc B (setA (setA a 6 (upd (zr (a 6) x j) (x + 1 + j) (nI 0))) 7 (zr (a 7) x j)) v) rfl rfl rfl (show x + 1 + j < 512 by omega) (by omega) rfl ?_
    refine V.run 20 rfl ?_
    rw [nI_add, show x + (j + 1) = x + 1 + j by omega]
    refine V.iast (w' := wM cc B (setA (setA a 6 (upd (zr (a 6) x j) (x + 1 + j) (nI 0))) 7 (upd (zr (a 7) x j) (x + 1 + j) (nI 0))) v) rfl rfl rfl (show x + 1 + j < 512 by omega) (by omega) rfl ?_
    refine V.run 20 rfl ?_
    rw [nI_add]
    exact ih
theorem m_make (hB : B ≤ 16) {n : Nat} (hn : n ≤ 1000) {s : AS} (hI : Inv B n s) (hr : RepM B a v s) (root m : Int32) : Tot none kX5_make [.ref 19, .int root, .int m] (wM cc B a v) (rM cc B (opMake B s root m)) := by
  refine eX5_make ?_
  refine V.run 20 rfl ?_
  refine V.puti (w' := wM cc B a (uV v 0 (nI 0))) rfl rfl rfl ?_
  have hr : RepM B a (uV v 0 (nI 0)) s := hr
  generalize uV v 0 (nI 0) = v at hr ⊢
  refine V.run 20 rfl ?_
  unfold opMake
  rcases ixN_or (n := 16) (by omega) root with ⟨hbad, e⟩ | ⟨i, hi, rfl, e⟩
  · rw [e]
    refine V.cs rfl (m_isRoot0 hbad) rfl ?_
    rintro _ _ ⟨rfl, rfl⟩
    refine V.brT rfl rfl i0_eq0 ?_
    refine V.run 20 rfl ?_
    exact V.ri rfl ⟨rfl, a, v, rfl, hr⟩
  · rw [e]
    refine V.cs rfl (m_isRoot1 hi) rfl ?_
    rintro _ _ ⟨rfl, rfl⟩
    refine V.brF rfl rfl i1_ne0 ?_
    refine V.run 20 rfl ?_
    rcases ixN_or (n := 16) (by omega) m with ⟨hbad, e2⟩ | ⟨m, hm, rfl, e2⟩
    · rw [e2]
      refine V.cs rfl (m_in0 (h := 15) (by omega) hbad) rfl ?_
      rintro _ _ ⟨rfl, rfl⟩
      refine V.brF rfl rfl (fun h => h i0_eq0) ?_
      refine V.run 20 rfl ?_
      exact V.ri rfl ⟨rfl, a, v, rfl, hr⟩
    · rw [e2]
      dsimp only
      obtain ⟨M, hM, hMs, -⟩ := hI.2.2.2.2.2.1
      have hcl4 := clsF_lt m
      refine V.cs rfl (m_in1 (h := 15) (by omega) (by omega)) rfl ?_
      rintro _ _ ⟨rfl, rfl⟩
      refine V.brT rfl rfl i1_ne0 ?_
      refine V.run 20 rfl ?_
      refine V.brT rfl rfl (fun h => nI_ne (show M < 2 ^ 31 by omega) (show 2000 < 2 ^ 31 by omega) (by omega) ((hr.2.2.2.2.2.2.1.trans hMs).symm.trans h)) ?_
      refine m_cls (show m ≤ 15 by omega) ?_
      refine V.run 20 rfl ?_
      -- behind finding a cell
      have fin : ∀ (a1 : Nat → Nat → Int32) (v1 : Nat → Int32), RepM B a1 v1 (rmC B (clsF m) s).1 →
          V none 101 (rM cc B (match rmC B (clsF m) s with
            | (t, none) => (-4, t)
            | (t, some x) => (sM t, ((upd (sK t).1 x (sM t), (sK t).2), upd (sF t) x (nI m), zr (sD t) x m, zr (sV t) x m, upd (sR t) i (nI x), sQ t, sM t + nI 1, sN t, sB t)))) (0, 0) 95 [(0, .ref 19), (1, .int (nI i)), (2, .int (nI m)), (3, .int (nI (clsF m))), (4, .int (oA (rmC B (clsF m) s).2))] [.int (-1), .int (oA (rmC B (clsF m) s).2)] (wM cc B a1 v1) := by
        intro a1 v1 hr1
        obtain ⟨hI1, hc1, hM1⟩ := rmC_ok hB hcl4 hI
        cases h : rmC B (clsF m) s with
        | mk t o =>
          rw [h] at hr1 hI1 hc1 hM1
          cases o with
          | none =>
            refine V.brF rfl rfl (fun h => h rfl) ?_
            refine V.run 20 rfl ?_
            exact V.ri rfl ⟨rfl, a1, v1, rfl, hr1⟩
          | some x =>
            obtain ⟨c1, c2, c3, c4, c5⟩ := hc1 x rfl
            have c1 : x < 32 * B := c1
            have c2 : (sK t).1 x = -1 := c2
            have hI1 : Inv B n t := hI1
            have hfit := clsF_fit m (by omega)
            obtain ⟨ci, hci, hxe⟩ := cell_of hcl4 c5
            have hin := cw_in hcl4 hci
            have hxm : x + 1 + m ≤ 32 * B := by omega
            have hwx : (sK t).2.1 x = 0 := by
              rcases hI1.1.2.2.2.1 x c1 with q | q
              · exact q
              · exact absurd c2 q.2
            have hmx : sB t x = false := by
              cases hq : sB t x with
              | false => rfl
              | true => exact absurd c2 (hI1.1.2.2.2.2 x c1 hq)
            obtain ⟨h1, h2, h3, h4, h5, h6, h7, h8, h9⟩ := hr1
            have h7 : v1 1 = sM t := h7
            refine V.brT rfl rfl (oA_m1 (by omega)) ?_
            refine V.run 20 rfl ?_
            refine V.iast (j := x) (w' := wM cc B (uA a1 2 x (v1 1)) v1) rfl rfl rfl (show x < 512 by omega) (by omega) rfl ?_
            refine V.run 20 rfl ?_
            refine V.puti (w' := wM cc B (uA a1 2 x (v1 1)) (uV v1 1 (v1 1 + nI 1))) rfl rfl rfl ?_
            refine V.run 20 rfl ?_
            refine V.iast (j := x) (w' := wM cc B (uA (uA a1 2 x (v1 1)) 3 x (nI m)) (uV v1 1 (v1 1 + nI 1))) rfl rfl rfl (show x < 512 by omega) (by omega) rfl ?_
            refine V.run 20 rfl ?_
            refine V.zast (j := x) (w' := wM cc B (uA (uA (uA a1 2 x (v1 1)) 3 x (nI m)) 4 x (nI 0)) (uV v1 1 (v1 1 + nI 1))) rfl rfl rfl (show x < 512 by omega) (by omega) (Or.inl rfl) rfl ?_
            refine V.run 20 rfl ?_
            refine V.zast (j := x) (w' := wM cc B (uA (uA (uA (uA a1 2 x (v1 1)) 3 x (nI m)) 4 x (nI 0)) 5 x (nI 0)) (uV v1 1 (v1 1 + nI 1))) rfl rfl rfl (show x < 512 by omega) (by omega) (Or.inl rfl) rfl ?_
            refine V.run 20 rfl ?_
            have hz := m_zero (cc := cc) (B := B) (x := x) (m := m) (i := i) (c := nI (clsF m)) (a := uA (uA (uA (uA a1 2 x (v1 1)) 3 x (nI m)) 4 x (nI 0)) 5 x (nI 0)) (v := uV v1 1 (v1 1 + nI 1)) (by omega) (by omega) (Q := rM cc B (sM t, ((upd (sK t).1 x (sM t), (sK t).2), upd (sF t) x (nI m), zr (sD t) x m, zr (sV t) x m, upd (sR t) i (nI x), sQ t, sM t + nI 1, sN t, sB t))) (by
              refine V.run 20 rfl ?_
              refine V.iast (j := i) (w' := wM cc B (uA (setA (setA (uA (uA (uA (uA a1 2 x (v1 1)) 3 x (nI m)) 4 x (nI 0)) 5 x (nI 0)) 6 (zr (a1 6) x m)) 7 (zr (a1 7) x m)) 8 i (nI x)) (uV v1 1 (v1 1 + nI 1))) rfl rfl rfl hi (by omega) rfl ?_
              refine V.run 20 rfl ?_
              refine V.ialE (j := x) rfl rfl rfl (show x < 512 by omega) (by omega) ((show upd (a1 2) x (v1 1) x = v1 1 from upd_s).trans h7) ?_
              refine V.ri rfl ⟨rfl, _, _, rfl, ⟨fun w hw => ?_, fun w hw => ?_, h1.2.2.1, h1.2.2.2.1, h1.2.2.2.2⟩, fun w hw hn => ?_, fun w hw => ?_, fun w hw => ?_, fun j hj => ?_, h6, ?_, h8, fun w hw => ?_⟩
              · show upd (a1 2) x (v1 1) w = upd (sK t).1 x (sM t) w
                by_cases q : w = x
                · rw [q, upd_s, upd_s, h7]
                · rw [upd_n q, upd_n q]; exact h1.1 w hw
              · show upd (a1 5) x (nI 0) w = (sK t).2.1 w
                by_cases q : w = x
                · rw [q, upd_s, hwx]; rfl
                · rw [upd_n q]; exact h1.2.1 w hw
              · show upd (a1 3) x (nI m) w = upd (sF t) x (nI m) w
                by_cases q : w = x
                · rw [q, upd_s, upd_s]
                · have hn : upd (sK t).1 x (sM t) w ≠ -1 := hn
                  rw [upd_n q] at hn
                  rw [upd_n q, upd_n q]; exact h2 w hw hn
              · show zr (a1 6) x m w = zr (sD t) x m w
                unfold zr; rw [h3 w hw]
              · show zr (a1 7) x m w = zr (sV t) x m w
                unfold zr; rw [h4 w hw]
              · show upd (a1 8) i (nI x) j = upd (sR t) i (nI x) j
                by_cases q : j = i
                · rw [q, upd_s, upd_s]
                · rw [upd_n q, upd_n q]; exact h5 j hj
              · show v1 1 + nI 1 = sM t + nI 1
                rw [h7]
              · show upd (a1 4) x (nI 0) w = if sB t w = true then 1 else 0
                by_cases q : w = x
                · rw [q, upd_s, hmx]; rfl
                · rw [upd_n q]; exact h9 w hw) m 0 (by omega)
            rw [zr_0, zr_0] at hz
            exact hz
      refine V.cv rfl (m_room hB hr.2.2.2.2.2.2.2.2 hI.1 hr.1 hcl4) rfl rfl ?_
      rintro _ _ ⟨rfl, a1, v1, rfl, hf1, hk1⟩
      obtain ⟨l1, c1⟩ := fCell_le (B := B) hcl4 hI.1
      have hr1 := hr.fr hf1 hk1 (fun w hw hne => by rw [← (l1.2.1 w hw hne).1]; exact hne)
      have hI1 := hI.le l1
      refine V.run 20 rfl ?_
      have key : rmC B (clsF m) s = match fCell (sB s) B (clsF m) (sK s) with
        | (K, some x) => ((K, s.2), some x)
        | (K, none) => (((fCell (sB (mrk B (K, s.2))) B (clsF m) (sK (mrk B (K, s.2)))).1, (mrk B (K, s.2)).2), (fCell (sB (mrk B (K, s.2))) B (clsF m) (sK (mrk B (K, s.2)))).2) := rfl
      cases h : fCell (sB s) B (clsF m) (sK s) with
      | mk K o =>
        rw [h] at hr1 hI1 c1 key
        cases o with
        | some x =>
          have hx := (c1 x rfl).1
          dsimp only at key
          refine V.brT rfl rfl (oA_m1 (by omega)) ?_
          refine V.run 20 rfl ?_
          have hfin := fin a1 v1 (by rw [key]; exact hr1)
          rw [show oA (rmC B (clsF m) s).2 = oA (some x) by rw [key]] at hfin
          exact hfin
        | none =>
          dsimp only at key
          have hI2 := Inv_mrk hB hI1
          obtain ⟨l2, c2⟩ := fCell_le (B := B) hcl4 hI2.1
          refine V.brF rfl rfl (fun h => h rfl) ?_
          refine V.run 20 rfl ?_
          refine V.cv rfl (m_markNowS hB hn hI1 hr1) rfl rfl ?_
          rintro _ _ ⟨rfl, a2, v2, rfl, hr2, -⟩
          refine V.run 20 rfl ?_
          refine V.cv rfl (m_room hB hr2.2.2.2.2.2.2.2.2 hI2.1 hr2.1 hcl4) rfl rfl ?_
          rintro _ _ ⟨rfl, a3, v3, rfl, hf3, hk3⟩
          refine V.run 20 rfl ?_
          have hfin := fin a3 v3 (by rw [key]; exact hr2.fr hf3 hk3 (fun w hw hne => by rw [← (l2.2.1 w hw hne).1]; exact hne))
          rw [show oA (rmC B (clsF m) s).2 = _ from congrArg (fun q : AS × Option Nat => oA q.2) key] at hfin
          exact hfin
end MS
