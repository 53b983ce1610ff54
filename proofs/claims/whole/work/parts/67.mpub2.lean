theorem m1_lt {m : Nat} (h : m < 2 ^ 31) : (-1 : Int32) < nI m := by
  rw [Int32.lt_iff_toInt_lt, nI_toInt h, m1_toInt]
  omega
theorem sm_cn (p : Nat → Bool) : ∀ n, sm (fun w => bif p w then 1 else 0) n = cn p n
  | 0 => rfl
  | n + 1 => by unfold sm cn; rw [sm_cn p n]
theorem sm_congr {f g : Nat → Nat} : ∀ {n : Nat}, (∀ i, i < n → f i = g i) → sm f n = sm g n
  | 0, _ => rfl
  | n + 1, h => by unfold sm; rw [sm_congr (fun i hi => h i (by omega)), h n (by omega)]
theorem sm_add (f : Nat → Nat) (m : Nat) : ∀ n, sm f (m + n) = sm f m + sm (fun i => f (m + i)) n
  | 0 => rfl
  | n + 1 => by
    show sm f (m + n) + f (m + n) = sm f m + (sm (fun i => f (m + i)) n + f (m + n))
    rw [sm_add f m n, Nat.add_assoc]
theorem sm_mul (p : Nat → Bool) (d : Nat) : ∀ n, sm (fun w => bif p w then d else 0) n = cn p n * d
  | 0 => by simp [sm, cn]
  | n + 1 => by
    unfold sm cn
    rw [sm_mul p d n, Nat.add_mul]
    cases p n <;> simp
/-- what the reference's counting of objects adds for a word -/
def oT (K : KS) (p q : Bool) (w : Nat) : Nat := bif !decide (K.1 w = -1) && (!q || decide (K.2.1 w = 1)) then (bif p then cwJ K.2.2.1 (w / 32) else 1) else 0
theorem oT_00 (K : KS) (B : Nat) : sm (oT K false false) (32 * B) = oN K.1 B := by
  have : sm (oT K false false) (32 * B) = sm (fun w => bif !decide (K.1 w = -1) then 1 else 0) (32 * B) := sm_congr (fun i _ => by unfold oT; cases decide (K.1 i = -1) <;> rfl)
  rw [this, sm_cn, Nat.mul_comm]
  rfl
theorem oT_10 (K : KS) : ∀ B, sm (oT K true false) (32 * B) = oW K.1 K.2.2.1 B
  | 0 => rfl
  | B + 1 => by
    have ih := oT_10 K B
    rw [Nat.mul_add, Nat.mul_one, sm_add, ih]
    show _ = oW K.1 K.2.2.1 B + oB K.1 B * cwJ K.2.2.1 B
    congr 1
    unfold oB
    rw [← sm_mul]
    refine sm_congr (fun i hi => ?_)
    unfold oT
    rw [show (32 * B + i) / 32 = B by omega, Nat.mul_comm 32 B]
    cases decide (K.1 (B * 32 + i) = -1) <;> rfl
theorem oT_01 {K : KS} {B : Nat} (h : ∀ w, w < 32 * B → K.2.1 w = 1 → K.1 w ≠ -1 ∧ w % 2 = 0) : sm (oT K false true) (32 * B) = cn (fun k => decide (K.2.1 (2 * k) = 1)) (16 * B) := by
  have : sm (oT K false true) (32 * B) = sm (fun w => bif decide (K.2.1 w = 1) then 1 else 0) (32 * B) := sm_congr (fun i hi => by
    unfold oT
    by_cases q : K.2.1 i = 1
    · have := (h i hi q).1
      simp [q, this]
    · simp [q])
  rw [this, sm_cn, show 32 * B = 16 * B * 2 by omega, cn_step (by omega) (fun w hw hp => (h w (by omega) (of_decide_eq_true hp)).2)]
  refine cn_congr (fun i _ => ?_)
  rw [Nat.mul_comm i 2]
section MP2
variable {cc : Nat → xC} {B : Nat} {a : Nat → Nat → Int32} {v : Nat → Int32}
theorem RepM.fr {s : AS} (hr : RepM B a v s) {a' : Nat → Nat → Int32} {v' : Nat → Int32} (hf : frM a a' v v') {K' : KS} (hk : rpK B a' v' K') (hl : ∀ w, w < 32 * B → K'.1 w ≠ -1 → (sK s).1 w ≠ -1) : RepM B a' v' (K', s.2) := by
  obtain ⟨f1, f2⟩ := hf
  obtain ⟨h1, h2, h3, h4, h5, h6, h7, h8, h9⟩ := hr
  refine ⟨hk, fun w hw hn => ?_, ?_, ?_, ?_, ?_, ?_, ?_, ?_⟩
  · rw [f1 3 (by omega) (by omega) (by omega) (by omega)]; exact h2 w hw (hl w hw hn)
  · rw [f1 6 (by omega) (by omega) (by omega) (by omega)]; exact h3
  · rw [f1 7 (by omega) (by omega) (by omega) (by omega)]; exact h4
  · rw [f1 8 (by omega) (by omega) (by omega) (by omega)]; exact h5
  · rw [f1 9 (by omega) (by omega) (by omega) (by omega), f2 4 (by omega)]; exact h6
  · rw [f2 1 (by omega)]; exact h7
  · rw [f2 2 (by omega)]; exact h8
  · rw [f1 4 (by omega) (by omega) (by omega) (by omega)]; exact h9
theorem RepM.rt {n : Nat} {s : AS} (hI : Inv B n s) (hr : RepM B a v s) : rtOK (a 8) (safe B s) := fun i hi => by rw [hr.2.2.2.2.1 i hi]; exact hI.2.2.1 i hi
theorem RepM.wt {n : Nat} {s : AS} (hI : Inv B n s) (hr : RepM B a v s) : wtOK (32 * B) (a 2) (a 5) (safe B s) := by
  have h1 := hr.1
  obtain ⟨w1, w2, w3⟩ := hI.2.2.2.2.1
  refine ⟨fun w hw => by rw [h1.2.1 w hw]; exact w1 w hw, fun w hw q => w2 w hw (by rw [← h1.2.1 w hw]; exact q), fun x y hx hy q1 q2 q3 => w3 x y hx hy (by rw [← h1.2.1 x hx]; exact q1) (by rw [← h1.2.1 y hy]; exact q2) (by rw [← h1.1 x hx, ← h1.1 y hy]; exact q3)⟩
theorem RepM.ag {s : AS} (hr : RepM B a v s) : agr (32 * B) (safe B s) (a 3) (a 6) (a 7) (sF s) (sD s) (sV s) := ⟨fun x hx => hr.2.1 x hx.1 hx.2.1, hr.2.2.1, hr.2.2.2.1⟩
theorem m_markNowS (hB : B ≤ 16) {n : Nat} (hn : n ≤ 1000) {s : AS} (hI : Inv B n s) (hr : RepM B a v s) : Tot none kX5_markNow [.ref 19] (wM cc B a v) (fun o w' => o = none ∧ ∃ a' v', w' = wM cc B a' v' ∧ RepM B a' v' (mrk B s) ∧ v' 5 = nI (mL3 B (sK s).1 (sF s) (sK s).2.1 (sD s) (sV s) (sR s) (sQ s)).length) := by
  have hp := hpM hI hr
  have hrt := hr.rt hI
  have hwt := hr.wt hI
  have hag := hr.ag
  obtain ⟨h1, h2, h3, h4, h5, h6, h7, h8, h9⟩ := id hr
  obtain ⟨e1, e2, e3, e4, e5, e6⟩ := mrk_congr hB hp hag hrt h5 hI.2.2.2.1.2 h1.1 h1.2.1 hwt
  refine (m_markNow hB hp hrt hwt (fun w hw q => ?_) h6 hI.2.2.2.1).mono ?_
  · have hs := hwt.2.1 w hw q
    obtain ⟨M, hM, -, hx⟩ := hI.2.2.2.2.2.1
    obtain ⟨m, hm, hmn⟩ := hx w hw hs.2.1
    rw [h1.1 w hw, hmn]
    exact m1_lt (by omega)
  rintro o w' ⟨rfl, wt, fq, nq, f, g, nn, k, u, rfl, q0, q1, q3, q4, q5, q6⟩
  refine ⟨rfl, _, _, rfl, ⟨⟨h1.1, fun w hw => (q0 w hw).trans (e3 w hw), h1.2.2.1, fun b hb => ?_, h1.2.2.2.2⟩, h2, e5, e6, h5, ?_, h7, ?_, fun w hw => ?_⟩, ?_⟩
  · show u b = if (sK s).2.2.1 b = -1 then 0 else 1
    rw [q6 b hb, h1.2.2.1 b hb]
  · show Ql (sQ s ++ mT B (sK s).1 (sF s) (sK s).2.1 (sD s) (sV s) (sR s) (sQ s)) fq nq
    rw [← e2]; exact q1
  · show v 2 + nI 1 = sN s + nI 1
    rw [h8]
  · show k w = if decide (w ∈ mL3 B (sK s).1 (sF s) (sK s).2.1 (sD s) (sV s) (sR s) (sQ s)) = true then 1 else 0
    rw [← e4, q5 w (by omega)]
    have hl := q4.len hp
    have := q3.iff (by omega) hw
    by_cases q : w ∈ mL3 B (a 2) (a 3) (a 5) (a 6) (a 7) (a 8) (sQ s)
    · rw [if_neg (fun h => this.mp h q), decide_eq_true q, if_pos rfl]
    · rw [if_pos (this.mpr q), decide_eq_false q, if_neg (by decide)]
  · show nn = _
    rw [← e4]; exact q3.1
theorem m_mark (hB : B ≤ 16) {n : Nat} (hn : n ≤ 1000) {s : AS} (hI : Inv B n s) (hr : RepM B a v s) : Tot none kX5_mark [.ref 19] (wM cc B a v) (rM cc B (opMark B s)) := by
  refine eX5_mark ?_
  refine V.run 20 rfl ?_
  refine V.puti (w' := wM cc B a (uV v 0 (nI 0))) rfl rfl rfl ?_
  have hr : RepM B a (uV v 0 (nI 0)) s := hr
  generalize uV v 0 (nI 0) = v at hr ⊢
  refine V.run 20 rfl ?_
  refine V.cv rfl (m_markNowS hB hn hI hr) rfl rfl ?_
  rintro _ _ ⟨rfl, a', v', rfl, hr', h5⟩
  refine V.run 20 rfl ?_
  exact V.ri rfl ⟨congrArg (fun z => some (Value.int z)) h5, a', v', rfl, hr'⟩
theorem m_sweep (hB : B ≤ 16) {n : Nat} {s : AS} (hI : Inv B n s) (hr : RepM B a v s) : Tot none kX5_sweep [.ref 19] (wM cc B a v) (rM cc B (opSweep B s)) := by
  refine eX5_sweep ?_
  refine V.run 20 rfl ?_
  refine V.puti (w' := wM cc B a (uV v 0 (nI 0))) rfl rfl rfl ?_
  have hr : RepM B a (uV v 0 (nI 0)) s := hr
  generalize uV v 0 (nI 0) = v at hr ⊢
  refine V.run 20 rfl ?_
  have loop : ∀ (m b : Nat), b + m = B → ff (fun b => decide ((sK s).2.2.2.1 b = 1)) B 0 = ff (fun b => decide ((sK s).2.2.2.1 b = 1)) m b → V none 114 (rM cc B (opSweep B s)) (0, 0) 12 [(0, .ref 19), (1, .int (nI b))] [.int (nI B), .int (nI b)] (wM cc B a v) := by
    intro m
    induction m with
    | zero =>
      intro b hb he
      refine V.brT rfl rfl (nI_le (by omega) (by omega)) ?_
      refine V.run 20 rfl ?_
      unfold opSweep
      rw [he]
      exact V.ri rfl ⟨rfl, a, v, rfl, hr⟩
    | succ m ih =>
      intro b hbm he
      have hb : b < B := by omega
      refine V.brF rfl rfl (nI_ge hb (by omega)) ?_
      refine V.run 20 rfl ?_
      have he0 := he
      unfold ff at he
      by_cases h1 : (sK s).2.2.2.1 b = 1
      · rw [show decide ((sK s).2.2.2.1 b = 1) = true from decide_eq_true h1, cond_true] at he
        refine V.zalE rfl rfl rfl (show b < 16 by omega) (by omega) ((hr.1.2.2.2.1 b hb).trans h1) ?_
        refine V.brF rfl rfl (by decide) ?_
        refine V.run 20 rfl ?_
        refine V.cv rfl (m_sweepBlock hB hr.2.2.2.2.2.2.2.2 hI.1 hr.1 hb) rfl rfl ?_
        rintro _ _ ⟨rfl, a', v', rfl, hf, hk⟩
        refine V.run 20 rfl ?_
        unfold opSweep
        unfold ff
        rw [he]
        refine V.ri rfl ⟨rfl, a', v', rfl, hr.fr hf hk (fun w hw hn => ?_)⟩
        have := (sw1_le hI.1 hb h1).2.1 w hw hn
        rw [← this.1]; exact hn
      · have h0 : (sK s).2.2.2.1 b = 0 := by
          rcases hI.1.2.1 b hb with h | h
          · exact h
          · exact absurd h.1 h1
        rw [show decide ((sK s).2.2.2.1 b = 1) = false from decide_eq_false h1, cond_false] at he
        refine V.zalE rfl rfl rfl (show b < 16 by omega) (by omega) ((hr.1.2.2.2.1 b hb).trans h0) ?_
        refine V.brT rfl rfl rfl ?_
        refine V.run 20 rfl ?_
        rw [nI_add]
        exact ih (b + 1) (by omega) (he0.trans (by simp only [ff, decide_eq_false h1, cond_false]))
  exact loop B 0 (by omega) rfl
theorem m_object (hB : B ≤ 16) {n : Nat} {s : AS} (hI : Inv B n s) (hr : RepM B a v s) (root what : Int32) : Tot none kX5_object [.ref 19, .int root, .int what] (wM cc B a v) (rM cc B (opObject s root what, s)) := by
  refine eX5_object ?_
  refine V.run 20 rfl ?_
  refine V.puti (w' := wM cc B a (uV v 0 (nI 0))) rfl rfl rfl ?_
  have hr : RepM B a (uV v 0 (nI 0)) s := hr
  generalize uV v 0 (nI 0) = v at hr ⊢
  refine V.run 20 rfl ?_
  unfold opObject
  rcases ixN_or (n := 16) (by omega) root with ⟨hbad, e2⟩ | ⟨i, hi, rfl, e2⟩
  · rw [e2]
    refine V.cs rfl (m_isRoot0 hbad) rfl ?_
    rintro _ _ ⟨rfl, rfl⟩
    refine V.brT rfl rfl i0_eq0 ?_
    refine V.run 20 rfl ?_
    refine V.ri rfl ⟨?_, a, v, rfl, hr⟩
    cases ixN 6 what <;> rfl
  · rw [e2]
    refine V.cs rfl (m_isRoot1 hi) rfl ?_
    rintro _ _ ⟨rfl, rfl⟩
    refine V.brF rfl rfl i1_ne0 ?_
    refine V.run 20 rfl ?_
    rcases ixN_or (n := 6) (by omega) what with ⟨hbad, e⟩ | ⟨k, hk, rfl, e⟩
    · rw [e]
      refine V.cs rfl (m_in0 (h := 5) (by omega) hbad) rfl ?_
      rintro _ _ ⟨rfl, rfl⟩
      refine V.brF rfl rfl (fun h => h i0_eq0) ?_
      refine V.run 20 rfl ?_
      exact V.ri rfl ⟨rfl, a, v, rfl, hr⟩
    · rw [e]
      dsimp only
      refine V.cs rfl (m_in1 (h := 5) (by omega) (by omega)) rfl ?_
      rintro _ _ ⟨rfl, rfl⟩
      refine V.brT rfl rfl i1_ne0 ?_
      refine V.run 20 rfl ?_
      have h8 := hr.2.2.2.2.1 i hi
      rcases hI.2.2.1 i hi with h0 | ⟨x, hx, hs⟩
      · refine V.ialE rfl rfl rfl hi (by omega) (h8.trans h0) ?_
        refine V.run 20 rfl ?_
        refine V.brF rfl rfl (fun h => h rfl) ?_
        refine V.run 20 rfl ?_
        exact V.ri rfl ⟨by rw [if_pos h0], a, v, rfl, hr⟩
      · have hxN := hs.1
        have h01 := hI.2.2.2.2.1.1 x hxN
        rw [hx, if_neg (nI_m1 (by omega)), nI_clamp (by omega)]
        refine V.ialE rfl rfl rfl hi (by omega) (h8.trans hx) ?_
        refine V.run 20 rfl ?_
        refine V.brT rfl rfl (nI_m1 (by omega)) ?_
        refine V.run 20 rfl ?_
        rcases (show k = 0 ∨ k = 1 ∨ k = 2 ∨ k = 3 ∨ k = 4 ∨ k = 5 by omega) with rfl | rfl | rfl | rfl | rfl | rfl
        · refine V.tableIn (tgt := 76) rfl (by decide) (by decide) rfl rfl ?_
          refine V.run 20 rfl ?_
          refine V.ialE rfl rfl rfl (show x < 512 by omega) (by omega) (hr.1.1 x hxN) ?_
          exact V.ri rfl ⟨rfl, a, v, rfl, hr⟩
        · refine V.tableIn (tgt := 83) rfl (by decide) (by decide) rfl rfl ?_
          refine V.run 20 rfl ?_
          exact V.ri rfl ⟨rfl, a, v, rfl, hr⟩
        · refine V.tableIn (tgt := 85) rfl (by decide) (by decide) rfl rfl ?_
          refine V.run 20 rfl ?_
          refine V.ialE rfl rfl rfl (show x < 512 by omega) (by omega) (hr.2.1 x hxN hs.2.1) ?_
          exact V.ri rfl ⟨rfl, a, v, rfl, hr⟩
        · refine V.tableIn (tgt := 92) rfl (by decide) (by decide) rfl rfl ?_
          refine V.run 20 rfl ?_
          refine V.idiv rfl (by decide) ?_
          rw [pk_div (by omega) (by omega) (by omega)]
          refine V.ialE rfl rfl rfl (show x / 32 < 16 by omega) (by omega) (hr.1.2.2.1 (x / 32) (by omega)) ?_
          exact V.ri rfl ⟨rfl, a, v, rfl, hr⟩
        · refine V.tableIn (tgt := 102) rfl (by decide) (by decide) rfl rfl ?_
          refine V.run 20 rfl ?_
          rcases h01 with h | h
          · refine V.zalE rfl rfl rfl (show x < 512 by omega) (by omega) ((hr.1.2.1 x hxN).trans h) ?_
            refine V.brT rfl rfl rfl ?_
            refine V.run 20 rfl ?_
            exact V.ri rfl ⟨congrArg (fun z => some (Value.int z)) h.symm, a, v, rfl, hr⟩
          · refine V.zalE rfl rfl rfl (show x < 512 by omega) (by omega) ((hr.1.2.1 x hxN).trans h) ?_
            refine V.brF rfl rfl (by decide) ?_
            refine V.run 20 rfl ?_
            exact V.ri rfl ⟨congrArg (fun z => some (Value.int z)) h.symm, a, v, rfl, hr⟩
        · refine V.tableOut (tgt := 117) rfl (Or.inr (by decide)) rfl ?_
          refine V.run 20 rfl ?_
          have hmk := hr.2.2.2.2.2.2.2.2 x hxN
          by_cases q : sB s x = true
          · refine V.zalE rfl rfl rfl (show x < 512 by omega) (by omega) (hmk.trans (if_pos q)) ?_
            refine V.brF rfl rfl (by decide) ?_
            refine V.run 20 rfl ?_
            exact V.ri rfl ⟨by rw [q]; rfl, a, v, rfl, hr⟩
          · refine V.zalE rfl rfl rfl (show x < 512 by omega) (by omega) (hmk.trans (if_neg q)) ?_
            refine V.brT rfl rfl rfl ?_
            refine V.run 20 rfl ?_
            exact V.ri rfl ⟨by simp [q], a, v, rfl, hr⟩
theorem m_at (hB : B ≤ 16) (hB1 : 1 ≤ B) {n : Nat} {s : AS} (hI : Inv B n s) (hr : RepM B a v s) (word : Int32) : Tot none kX5_at [.ref 19, .int word] (wM cc B a v) (rM cc B (opAt B s word, s)) := by
  refine eX5_at ?_
  refine V.run 20 rfl ?_
  refine V.puti (w' := wM cc B a (uV v 0 (nI 0))) rfl rfl rfl ?_
  have hr : RepM B a (uV v 0 (nI 0)) s := hr
  generalize uV v 0 (nI 0) = v at hr ⊢
  refine V.run 20 rfl ?_
  rw [pk_mul, pk_sub (show 1 ≤ 32 * B by omega)]
  unfold opAt
  rcases ixN_or (n := 32 * B) (by omega) word with ⟨hbad, e⟩ | ⟨w, hw, rfl, e⟩
  · rw [e]
    refine V.cs rfl (m_in0 (h := 32 * B - 1) (by omega) (by rw [show 32 * B - 1 + 1 = 32 * B by omega]; exact hbad)) rfl ?_
    rintro _ _ ⟨rfl, rfl⟩
    refine V.brF rfl rfl (fun h => h i0_eq0) ?_
    refine V.run 20 rfl ?_
    exact V.ri rfl ⟨rfl, a, v, rfl, hr⟩
  · rw [e]
    dsimp only
    refine V.cs rfl (m_in1 (h := 32 * B - 1) (by omega) (by omega)) rfl ?_
    rintro _ _ ⟨rfl, rfl⟩
    refine V.brT rfl rfl i1_ne0 ?_
    refine V.run 20 rfl ?_
    refine V.idiv rfl (by decide) ?_
    rw [pk_div (by omega) (by omega) (by omega)]
    have hb : w / 32 < B := by omega
    rcases hI.1.1 (w / 32) hb with hf | ⟨c, hc, hcl⟩
    · rw [if_pos hf]
      refine V.ialE rfl rfl rfl (show w / 32 < 16 by omega) (by omega) ((hr.1.2.2.1 _ hb).trans hf) ?_
      refine V.run 20 rfl ?_
      refine V.brF rfl rfl (fun h => h rfl) ?_
      refine V.run 20 rfl ?_
      exact V.ri rfl ⟨rfl, a, v, rfl, hr⟩
    · have ej : cwJ (sK s).2.2.1 (w / 32) = cwd c := by unfold cwJ; rw [hcl, nI_clamp (by omega)]
      rw [if_neg (by rw [hcl]; exact nI_m1 (by omega)), ej]
      have h1 := cwd_pos c
      have h2 := cwd_le c hc
      refine V.ialE rfl rfl rfl (show w / 32 < 16 by omega) (by omega) ((hr.1.2.2.1 _ hb).trans hcl) ?_
      refine V.run 20 rfl ?_
      refine V.brT rfl rfl (nI_m1 (by omega)) ?_
      refine V.run 20 rfl ?_
      refine V.cs rfl (m_cellOf hc) rfl ?_
      rintro _ _ ⟨rfl, rfl⟩
      refine V.irem rfl (nI_ne0 (by omega) (by omega)) ?_
      rw [pk_rem (by omega) (by omega) (by omega)]
      refine V.run 20 rfl ?_
      have hmod := Nat.mod_le w (cwd c)
      rw [pk_sub hmod]
      refine V.ialE rfl rfl rfl (show w - w % cwd c < 512 by omega) (by omega) (hr.1.1 (w - w % cwd c) (by omega)) ?_
      exact V.ri rfl ⟨rfl, a, v, rfl, hr⟩
theorem m_block (hB : B ≤ 16) (hB1 : 1 ≤ B) {n : Nat} {s : AS} (hI : Inv B n s) (hr : RepM B a v s) (bb what : Int32) : Tot none kX5_block [.ref 19, .int bb, .int what] (wM cc B a v) (rM cc B (opBlock B s bb what, s)) := by
  refine eX5_block ?_
  refine V.run 20 rfl ?_
  refine V.puti (w' := wM cc B a (uV v 0 (nI 0))) rfl rfl rfl ?_
  have hr : RepM B a (uV v 0 (nI 0)) s := hr
  generalize uV v 0 (nI 0) = v at hr ⊢
  refine V.run 20 rfl ?_
  rw [pk_sub hB1]
  unfold opBlock
  rcases ixN_or (n := B) (by omega) bb with ⟨hbad, e⟩ | ⟨b, hb, rfl, e⟩
  · rw [e]
    refine V.cs rfl (m_in0 (h := B - 1) (by omega) (by rw [show B - 1 + 1 = B by omega]; exact hbad)) rfl ?_
    rintro _ _ ⟨rfl, rfl⟩
    refine V.brT rfl rfl i0_eq0 ?_
    refine V.run 20 rfl ?_
    exact V.ri rfl ⟨rfl, a, v, rfl, hr⟩
  · rw [e]
    refine V.cs rfl (m_in1 (h := B - 1) (by omega) (by omega)) rfl ?_
    rintro _ _ ⟨rfl, rfl⟩
    refine V.brF rfl rfl i1_ne0 ?_
    refine V.run 20 rfl ?_
    rcases ixN_or (n := 4) (by omega) what with ⟨hbad, e2⟩ | ⟨k, hk, rfl, e2⟩
    · rw [e2]
      refine V.cs rfl (m_in0 (h := 3) (by omega) hbad) rfl ?_
      rintro _ _ ⟨rfl, rfl⟩
      refine V.brF rfl rfl (fun h => h i0_eq0) ?_
      refine V.run 20 rfl ?_
      exact V.ri rfl ⟨rfl, a, v, rfl, hr⟩
    · rw [e2]
      dsimp only
      refine V.cs rfl (m_in1 (h := 3) (by omega) (by omega)) rfl ?_
      rintro _ _ ⟨rfl, rfl⟩
      refine V.brT rfl rfl i1_ne0 ?_
      refine V.run 20 rfl ?_
      rcases (show k = 0 ∨ k = 1 ∨ k = 2 ∨ k = 3 by omega) with rfl | rfl | rfl | rfl
      · refine V.brF rfl rfl (fun h => h i0_eq0) ?_
        refine V.run 20 rfl ?_
        refine V.ialE rfl rfl rfl (show b < 16 by omega) (by omega) (hr.1.2.2.1 b hb) ?_
        refine V.run 20 rfl ?_
        exact V.ri rfl ⟨rfl, a, v, rfl, hr⟩
      · refine V.brT rfl rfl i1_ne0 ?_
        refine V.run 20 rfl ?_
        refine V.brF rfl rfl (fun h => h rfl) ?_
        refine V.run 20 rfl ?_
        rcases hI.1.2.1 b hb with h | ⟨h, -⟩
        · refine V.zalE rfl rfl rfl (show b < 16 by omega) (by omega) ((hr.1.2.2.2.1 b hb).trans h) ?_
          refine V.brT rfl rfl rfl ?_
          refine V.run 20 rfl ?_
          exact V.ri rfl ⟨congrArg (fun z => some (Value.int z)) h.symm, a, v, rfl, hr⟩
        · refine V.zalE rfl rfl rfl (show b < 16 by omega) (by omega) ((hr.1.2.2.2.1 b hb).trans h) ?_
          refine V.brF rfl rfl (by decide) ?_
          refine V.run 20 rfl ?_
          exact V.ri rfl ⟨congrArg (fun z => some (Value.int z)) h.symm, a, v, rfl, hr⟩
      · refine V.brT rfl rfl (by decide) ?_
        refine V.run 20 rfl ?_
        refine V.brT rfl rfl (by decide) ?_
        refine V.run 20 rfl ?_
        refine V.brF rfl rfl (fun h => h rfl) ?_
        refine V.run 20 rfl ?_
        refine V.cv rfl (m_objectsIn hB hr.1.1 hb) rfl rfl ?_
        rintro _ _ ⟨rfl, rfl⟩
        refine V.run 20 rfl ?_
        exact V.ri rfl ⟨rfl, a, v, rfl, hr⟩
      · refine V.brT rfl rfl (by decide) ?_
        refine V.run 20 rfl ?_
        refine V.brT rfl rfl (by decide) ?_
        refine V.run 20 rfl ?_
        refine V.brT rfl rfl (by decide) ?_
        refine V.run 20 rfl ?_
        rcases hI.1.1 b hb with hf | ⟨c, hc, hcl⟩
        · refine V.cv rfl (m_emptyIn0 hB hb ((hr.1.2.2.1 b hb).trans hf)) rfl rfl ?_
          rintro _ _ ⟨rfl, rfl⟩
          exact V.ri rfl ⟨by rw [if_pos hf]; rfl, a, v, rfl, hr⟩
        · refine V.cv rfl (m_emptyIn hB hr.1.1 hb hc ((hr.1.2.2.1 b hb).trans hcl)) rfl rfl ?_
          rintro _ _ ⟨rfl, rfl⟩
          have ej : cwJ (sK s).2.2.1 b = cwd c := by unfold cwJ; rw [hcl, nI_clamp (by omega)]
          exact V.ri rfl ⟨by rw [if_neg (show ¬ (sK s).2.2.1 b = -1 by rw [hcl]; exact nI_m1 (by omega)), ej]; rfl, a, v, rfl, hr⟩
theorem m_blocksThat1 (hB : B ≤ 16) {K : KS} (hr : rpK B a v K) : Tot none kX5_blocksThat [.ref 19, .int (nI 1)] (wM cc B a v) (rI (nI (cn (fun b => decide (K.2.2.1 b = -1)) B)) (wM cc B a v)) := by
  have loop : ∀ (m b : Nat), b + m = B → V none 118 (rI (nI (cn (fun b => decide (K.2.2.1 b = -1)) B)) (wM cc B a v)) (0, 0) 9 [(0, .ref 19), (1, .int (nI 1)), (2, .int (nI (cn (fun b => decide (K.2.2.1 b = -1)) b))), (3, .int (nI b))] [.int (nI B), .int (nI b)] (wM cc B a v) := by
    intro m
    induction m with
    | zero =>
      intro b hb
      have e : b = B := by omega
      subst e
      refine V.brT rfl rfl (nI_le (Nat.le_refl _) (by omega)) ?_
      refine V.run 20 rfl ?_
      exact V.ri rfl ⟨rfl, rfl⟩
    | succ m ih =>
      intro b hbm
      have hb : b < B := by omega
      have ih := ih (b + 1) (by omega)
      rw [cn] at ih
      refine V.brF rfl rfl (nI_ge hb (by omega)) ?_
      refine V.run 20 rfl ?_
      refine V.brF rfl rfl i1_ne0 ?_
      refine V.run 20 rfl ?_
      refine V.ialE rfl rfl rfl (show b < 16 by omega) (by omega) (hr.2.2.1 b hb) ?_
      refine V.run 20 rfl ?_
      by_cases hf : K.2.2.1 b = -1
      · rw [show decide (K.2.2.1 b = -1) = true by simp [hf]] at ih
        refine V.brF rfl rfl (fun h => h hf) ?_
        refine V.run 20 rfl ?_
        rw [nI_add, nI_add]
        exact ih
      · rw [show decide (K.2.2.1 b = -1) = false by simp [hf]] at ih
        refine V.brT rfl rfl hf ?_
        refine V.run 20 rfl ?_
        rw [nI_add, nI_add]
        exact ih
  refine eX5_blocksThat ?_
  refine V.run 20 rfl ?_
  exact loop B 0 (by omega)
theorem m_blocksThat0 (hB : B ≤ 16) {K : KS} {mkd : Nat → Bool} (hK : bkOK B mkd K) (hr : rpK B a v K) : Tot none kX5_blocksThat [.ref 19, .int (nI 0)] (wM cc B a v) (rI (nI (cn (fun b => decide (K.2.2.2.1 b = 1)) B)) (wM cc B a v)) := by
  have loop : ∀ (m b : Nat), b + m = B → V none 118 (rI (nI (cn (fun b => decide (K.2.2.2.1 b = 1)) B)) (wM cc B a v)) (0, 0) 9 [(0, .ref 19), (1, .int (nI 0)), (2, .int (nI (cn (fun b => decide (K.2.2.2.1 b = 1)) b))), (3, .int (nI b))] [.int (nI B), .int (nI b)] (wM cc B a v) := by
    intro m
    induction m with
    | zero =>
      intro b hb
      have e : b = B := by omega
      subst e
      refine V.brT rfl rfl (nI_le (Nat.le_refl _) (by omega)) ?_
      refine V.run 20 rfl ?_
      exact V.ri rfl ⟨rfl, rfl⟩
    | succ m ih =>
      intro b hbm
      have hb : b < B := by omega
      have ih := ih (b + 1) (by omega)
      rw [cn] at ih
      refine V.brF rfl rfl (nI_ge hb (by omega)) ?_
      refine V.run 20 rfl ?_
      refine V.brT rfl rfl i0_eq0 ?_
      refine V.run 20 rfl ?_
      rcases hK.2.1 b hb with h0 | ⟨h1, -⟩
      · rw [show decide (K.2.2.2.1 b = 1) = false by rw [h0]; decide] at ih
        refine V.zalE rfl rfl rfl (show b < 16 by omega) (by omega) ((hr.2.2.2.1 b hb).trans h0) ?_
        refine V.brT rfl rfl rfl ?_
        refine V.run 20 rfl ?_
        rw [nI_add, nI_add]
        exact ih
      · rw [show decide (K.2.2.2.1 b = 1) = true by rw [h1]; decide] at ih
        refine V.zalE rfl rfl rfl (show b < 16 by omega) (by omega) ((hr.2.2.2.1 b hb).trans h1) ?_
        refine V.brF rfl rfl (by decide) ?_
        refine V.run 20 rfl ?_
        rw [nI_add, nI_add]
        exact ih
  refine eX5_blocksThat ?_
  refine V.run 20 rfl ?_
  exact loop B 0 (by omega)
theorem m_objects (hB : B ≤ 16) {K : KS} {mkd : Nat → Bool} (hK : bkOK B mkd K) (hr : rpK B a v K) (p q : Bool) : Tot none kX5_objects [.ref 19, .int (nI p.toNat), .int (nI q.toNat)] (wM cc B a v) (rI (nI (sm (oT K p q) (32 * B))) (wM cc B a v)) := by
  have loop : ∀ (m w : Nat), w + m = 32 * B → V none 119 (rI (nI (sm (oT K p q) (32 * B))) (wM cc B a v)) (0, 0) 14 [(0, .ref 19), (1, .int (nI p.toNat)), (2, .int (nI q.toNat)), (3, .int (nI (sm (oT K p q) w))), (4, .int (nI w))] [.int (nI (32 * B)), .int (nI w)] (wM cc B a v) := by
    intro m
    induction m with
    | zero =>
      intro w hw
      have e : w = 32 * B := by omega
      subst e
      refine V.brT rfl rfl (nI_le (Nat.le_refl _) (by omega)) ?_
      refine V.run 20 rfl ?_
      exact V.ri rfl ⟨rfl, rfl⟩
    | succ m ih =>
      intro w hwm
      have hw : w < 32 * B := by omega
      have ih := ih (w + 1) (by omega)
      rw [sm] at ih
      have no : oT K p q w = 0 → V none 119 (rI (nI (sm (oT K p q) (32 * B))) (wM cc B a v)) (0, 0) 46 [(0, .ref 19), (1, .int (nI p.toNat)), (2, .int (nI q.toNat)), (3, .int (nI (sm (oT K p q) w))), (4, .int (nI w))] [] (wM cc B a v) := by
        intro h
        rw [h] at ih
        refine V.run 20 rfl ?_
        refine V.brF rfl rfl (fun h => h i0_eq0) ?_
        refine V.run 20 rfl ?_
        rw [nI_add, nI_add, pk_mul]
        exact V.lt 5 rfl ih
      have yes : K.1 w ≠ -1 → oT K p q w = (bif p then cwJ K.2.2.1 (w / 32) else 1) → V none 119 (rI (nI (sm (oT K p q) (32 * B))) (wM cc B a v)) (0, 0) 42 [(0, .ref 19), (1, .int (nI p.toNat)), (2, .int (nI q.toNat)), (3, .int (nI (sm (oT K p q) w))), (4, .int (nI w))] [] (wM cc B a v) := by
        intro hne h
        rw [h] at ih
        refine V.run 20 rfl ?_
        refine V.brT rfl rfl i1_ne0 ?_
        refine V.run 20 rfl ?_
        cases p with
        | false =>
          refine V.brT rfl rfl i0_eq0 ?_
          refine V.run 20 rfl ?_
          rw [nI_add, nI_add, pk_mul]
          exact V.lt 5 rfl ih
        | true =>
          obtain ⟨c, hc, hcl, -⟩ := hK.2.2.1 w hw hne
          have ej : cwJ K.2.2.1 (w / 32) = cwd c := by unfold cwJ; rw [hcl, nI_clamp (by omega)]
          rw [cond_true, ej] at ih
          refine V.brF rfl rfl i1_ne0 ?_
          refine V.run 20 rfl ?_
          refine V.idiv rfl (by decide) ?_
          rw [pk_div (by omega) (by omega) (by omega)]
          refine V.ialE rfl rfl rfl (show w / 32 < 16 by omega) (by omega) ((hr.2.2.1 (w / 32) (by omega)).trans hcl) ?_
          refine V.cs rfl (m_cellOf hc) rfl ?_
          rintro _ _ ⟨rfl, rfl⟩
          refine V.run 20 rfl ?_
          rw [nI_add, nI_add, pk_mul]
          exact V.lt 5 rfl ih
      refine V.brF rfl rfl (nI_ge hw (by omega)) ?_
      refine V.run 20 rfl ?_
      refine V.ialE rfl rfl rfl (show w < 512 by omega) (by omega) (hr.1 w hw) ?_
      refine V.run 20 rfl ?_
      by_cases hn : K.1 w = -1
      · refine V.brT rfl rfl hn ?_
        exact no (by simp [oT, hn])
      · refine V.brF rfl rfl hn ?_
        refine V.run 20 rfl ?_
        cases q with
        | false =>
          refine V.brT rfl rfl i0_eq0 ?_
          exact yes hn (by simp [oT, hn])
        | true =>
          refine V.brF rfl rfl i1_ne0 ?_
          refine V.run 20 rfl ?_
          rcases hK.2.2.2.1 w hw with h0 | ⟨h1, -⟩
          · refine V.zalE rfl rfl rfl (show w < 512 by omega) (by omega) ((hr.2.1 w hw).trans h0) ?_
            refine V.brT rfl rfl rfl ?_
            exact no (by simp [oT, h0])
          · refine V.zalE rfl rfl rfl (show w < 512 by omega) (by omega) ((hr.2.1 w hw).trans h1) ?_
            refine V.brF rfl rfl (by decide) ?_
            exact yes hn (by simp [oT, hn, h1])
  refine eX5_objects ?_
  refine V.run 20 rfl ?_
  rw [pk_mul]
  exact loop (32 * B) 0 (by omega)
theorem m_count (hB : B ≤ 16) {n : Nat} {s : AS} (hI : Inv B n s) (hr : RepM B a v s) (what : Int32) : Tot none kX5_count [.ref 19, .int what] (wM cc B a v) (rM cc B (opCount B s what, s)) := by
  refine eX5_count ?_
  refine V.run 20 rfl ?_
  refine V.puti (w' := wM cc B a (uV v 0 (nI 0))) rfl rfl rfl ?_
  have hr : RepM B a (uV v 0 (nI 0)) s := hr
  generalize uV v 0 (nI 0) = v at hr ⊢
  refine V.run 20 rfl ?_
  have hp := hpM hI hr
  have hrt := hr.rt hI
  obtain ⟨h1, h2, h3, h4, h5, h6, h7, h8, h9⟩ := id hr
  unfold opCount
  rcases ixN_or (n := 10) (by omega) what with ⟨hbad, e⟩ | ⟨k, hk, rfl, e⟩
  · rw [e]
    refine V.tableOut (tgt := 122) rfl (by
      rcases hbad with h | h
      · left; rw [Int32.lt_iff_toInt_lt] at h; simpa using h
      · right; rw [Int32.le_iff_toInt_le, nI_toInt (by omega)] at h; omega) rfl ?_
    refine V.run 20 rfl ?_
    exact V.ri rfl ⟨rfl, a, v, rfl, hr⟩
  · rw [e]
    dsimp only
    rcases (show k = 0 ∨ k = 1 ∨ k = 2 ∨ k = 3 ∨ k = 4 ∨ k = 5 ∨ k = 6 ∨ k = 7 ∨ k = 8 ∨ k = 9 by omega) with rfl | rfl | rfl | rfl | rfl | rfl | rfl | rfl | rfl | rfl
    · refine V.tableIn (tgt := 60) rfl (by decide) (by decide) rfl rfl ?_
      refine V.run 20 rfl ?_
      refine V.cv rfl (m_objects hB hI.1 h1 false false) rfl rfl ?_
      rintro _ _ ⟨rfl, rfl⟩
      rw [oT_00]
      exact V.ri rfl ⟨rfl, a, v, rfl, hr⟩
    · refine V.tableIn (tgt := 67) rfl (by decide) (by decide) rfl rfl ?_
      refine V.run 20 rfl ?_
      refine V.cv rfl (m_objects hB hI.1 h1 true false) rfl rfl ?_
      rintro _ _ ⟨rfl, rfl⟩
      rw [oT_10]
      exact V.ri rfl ⟨rfl, a, v, rfl, hr⟩
    · refine V.tableIn (tgt := 74) rfl (by decide) (by decide) rfl rfl ?_
      refine V.run 20 rfl ?_
      exact V.ri rfl ⟨congrArg (fun z => some (Value.int z)) h7, a, v, rfl, hr⟩
    · refine V.tableIn (tgt := 79) rfl (by decide) (by decide) rfl rfl ?_
      refine V.run 20 rfl ?_
      exact V.ri rfl ⟨congrArg (fun z => some (Value.int z)) h8, a, v, rfl, hr⟩
    · refine V.tableIn (tgt := 84) rfl (by decide) (by decide) rfl rfl ?_
      refine V.run 20 rfl ?_
      exact V.ri rfl ⟨congrArg (fun z => some (Value.int z)) h1.2.2.2.2, a, v, rfl, hr⟩
    · refine V.tableIn (tgt := 89) rfl (by decide) (by decide) rfl rfl ?_
      refine V.run 20 rfl ?_
      refine V.cv rfl (m_blocksThat1 hB h1) rfl rfl ?_
      rintro _ _ ⟨rfl, rfl⟩
      exact V.ri rfl ⟨rfl, a, v, rfl, hr⟩
    · refine V.tableIn (tgt := 95) rfl (by decide) (by decide) rfl rfl ?_
      refine V.run 20 rfl ?_
      refine V.cv rfl (m_blocksThat0 hB hI.1 h1) rfl rfl ?_
      rintro _ _ ⟨rfl, rfl⟩
      exact V.ri rfl ⟨rfl, a, v, rfl, hr⟩
    · refine V.tableIn (tgt := 101) rfl (by decide) (by decide) rfl rfl ?_
      refine V.run 20 rfl ?_
      exact V.ri rfl ⟨congrArg (fun z => some (Value.int z)) h6.1, a, v, rfl, hr⟩
    · refine V.tableIn (tgt := 106) rfl (by decide) (by decide) rfl rfl ?_
      refine V.run 20 rfl ?_
      refine V.cv rfl (m_objects hB hI.1 h1 false true) rfl rfl ?_
      rintro _ _ ⟨rfl, rfl⟩
      rw [oT_01 (fun w hw q => by
        have hs := hI.2.2.2.2.1.2.1 w hw q
        exact ⟨hs.2.1, (hI.2.1 w hs).2.1⟩)]
      exact V.ri rfl ⟨rfl, a, v, rfl, hr⟩
    · obtain ⟨e1, -⟩ := mrk_congr hB hp hr.ag hrt h5 hI.2.2.2.1.2 h1.1 h1.2.1 (hr.wt hI)
      refine V.tableIn (tgt := 113) rfl (by decide) (by decide) rfl rfl ?_
      refine V.run 20 rfl ?_
      refine V.cv rfl (m_reach hB hp hrt h6 hI.2.2.2.1) rfl rfl ?_
      rintro _ _ ⟨rfl, f, g, n1, rfl, hW, -⟩
      refine V.run 20 rfl ?_
      refine V.ri rfl ⟨?_, _, _, rfl, h1, h2, h3, h4, h5, h6, h7, h8, h9⟩
      show some (Value.int n1) = some (Value.int (nI (mL1 B (sF s) (sD s) (sV s) (sR s) (sQ s)).length))
      rw [hW.1, e1]
end MP2
