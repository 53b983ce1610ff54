section CP3
variable {B : Nat} {a : Nat → Nat → Int32} {v : Nat → Int32} {r : xW}
theorem c_classFor {w : xW} {m : Nat} (hm : m ≤ 15) : Tot none kX4_classFor [.int (nI m)] w (rI (nI (clsF m)) w) := by
  have step : ∀ (c : Nat), c < 3 → (m + 1 ≤ cwd c → clsF m = c) → (cwd c < m + 1 → V none 72 (rI (nI (clsF m)) w) (0, 0) 4 [(0, .int (nI m)), (1, .int (nI (c + 1)))] [.int (nI 3), .int (nI (c + 1))] w) → V none 72 (rI (nI (clsF m)) w) (0, 0) 4 [(0, .int (nI m)), (1, .int (nI c))] [.int (nI 3), .int (nI c)] w := by
    intro c hc h1 h2
    have hcw := cwd_le c (by omega)
    refine V.brF rfl rfl (nI_ge hc (by omega)) ?_
    refine V.run 20 rfl ?_
    refine V.cs rfl (c_cellWords (show c < 4 by omega)) rfl ?_
    rintro _ _ ⟨rfl, rfl⟩
    refine V.run 20 rfl ?_
    rw [nI_add]
    by_cases q : m + 1 ≤ cwd c
    · refine V.brT rfl rfl (nI_le q (by omega)) ?_
      refine V.run 20 rfl ?_
      exact V.ri rfl ⟨by rw [h1 q], rfl⟩
    · refine V.brF rfl rfl (nI_ge (by omega) (by omega)) ?_
      refine V.run 20 rfl ?_
      rw [nI_add]
      exact h2 (by omega)
  refine eX4_classFor ?_
  refine V.run 20 rfl ?_
  refine step 0 (by omega) (fun q => by have e : cwd 0 = 2 := rfl; rw [clsF, if_pos (by omega)]) (fun q0 => ?_)
  have e0 : cwd 0 = 2 := rfl
  refine step 1 (by omega) (fun q => by have e : cwd 1 = 4 := rfl; rw [clsF, if_neg (by omega), if_pos (by omega)]) (fun q1 => ?_)
  have e1 : cwd 1 = 4 := rfl
  refine step 2 (by omega) (fun q => by have e : cwd 2 = 8 := rfl; rw [clsF, if_neg (by omega), if_neg (by omega), if_pos (by omega)]) (fun q2 => ?_)
  have e2 : cwd 2 = 8 := rfl
  refine V.brT rfl rfl (nI_le (Nat.le_refl 3) (by omega)) ?_
  refine V.run 20 rfl ?_
  exact V.ri rfl ⟨by rw [clsF, if_neg (by omega), if_neg (by omega), if_neg (by omega)], rfl⟩
theorem c_object (hB : B ≤ 16) {n : Nat} {s : AS} (hI : Inv B n s) (hr : RepC B a v s) (root what : Int32) : Tot none kX4_object [.ref 0, .int root, .int what] (wC B a v r) (rI (opObject s root what) (wC B a v r)) := by
  refine eX4_object ?_
  unfold opObject
  rcases ixN_or (n := 6) (by omega) what with ⟨hbad, e⟩ | ⟨k, hk, rfl, e⟩
  · rw [e]
    refine V.run 20 rfl ?_
    refine V.br rfl rfl (fun h => ?_) (fun h => ?_)
    · refine V.run 20 rfl ?_
      exact V.ri rfl ⟨rfl, rfl⟩
    · refine V.run 20 rfl ?_
      have h6 := hbad.resolve_left h
      refine V.brF rfl rfl (fun q => by
        rw [Int32.le_iff_toInt_le] at h6 q
        rw [nI_toInt (by omega)] at h6 q
        omega) ?_
      refine V.run 20 rfl ?_
      exact V.ri rfl ⟨rfl, rfl⟩
  · rw [e]
    refine V.run 20 rfl ?_
    refine V.brF rfl rfl (nI_pos (by omega)) ?_
    refine V.run 20 rfl ?_
    refine V.brT rfl rfl (nI_le (by omega) (by omega)) ?_
    refine V.run 20 rfl ?_
    rcases ixN_or (n := 16) (by omega) root with ⟨hbad, e2⟩ | ⟨i, hi, rfl, e2⟩
    · rw [e2]
      refine V.cv rfl (c_rootFault0 hbad) rfl rfl ?_
      rintro _ _ ⟨rfl, rfl⟩
      refine V.run 20 rfl ?_
      refine V.brT rfl rfl (by decide) ?_
      refine V.run 20 rfl ?_
      exact V.ri rfl ⟨rfl, rfl⟩
    · rw [e2]
      dsimp only
      have h12 := hr.2.2.2.2.1 i hi
      rcases hI.2.2.1 i hi with h0 | ⟨x, hx, hs⟩
      · rw [if_pos h0]
        refine V.cv rfl (c_rootFault1 hi (h12.trans h0)) rfl rfl ?_
        rintro _ _ ⟨rfl, rfl⟩
        refine V.run 20 rfl ?_
        refine V.brT rfl rfl (by decide) ?_
        refine V.run 20 rfl ?_
        exact V.ri rfl ⟨rfl, rfl⟩
      · have hxN := hs.1
        obtain ⟨m, hm, hf, hcl⟩ := hI.2.2.2.2.2.2.2 x hxN hs.2.1
        have h01 := hI.2.2.2.2.1.1 x hxN
        have hfa := (hr.2.1 x hxN hs.2.1).trans hf
        rw [hx, if_neg (nI_m1 (by omega)), nI_clamp (by omega)]
        refine V.cv rfl (c_rootFault2 hi (h12.trans hx) (by omega)) rfl rfl ?_
        rintro _ _ ⟨rfl, rfl⟩
        refine V.run 20 rfl ?_
        refine V.brF rfl rfl (fun h => h i0_eq0) ?_
        refine V.run 20 rfl ?_
        refine V.ialE rfl rfl rfl hi (by omega) (h12.trans hx) ?_
        refine V.run 20 rfl ?_
        refine V.cv rfl (Qj := rI (if k = 0 then (sK s).1 x else if k = 1 then nI x else if k = 2 then sF s x else if k = 3 then (sK s).2.2.1 (x / 32) else if k = 4 then (sK s).2.1 x else if sB s x = true then nI 1 else nI 0) (wC B a v r)) (eX4_tell ?_) rfl rfl ?_
        · refine V.run 20 rfl ?_
          rcases (show k = 0 ∨ k = 1 ∨ k = 2 ∨ k = 3 ∨ k = 4 ∨ k = 5 by omega) with rfl | rfl | rfl | rfl | rfl | rfl
          · refine V.tableIn (tgt := 36) rfl (by decide) (by decide) rfl rfl ?_
            refine V.run 20 rfl ?_
            refine V.cv rfl (c_nameAtE hB hxN (hr.1.1 x hxN)) rfl rfl ?_
            rintro _ _ ⟨rfl, rfl⟩
            exact V.ri rfl ⟨rfl, rfl⟩
          · refine V.tableIn (tgt := 45) rfl (by decide) (by decide) rfl rfl ?_
            refine V.run 20 rfl ?_
            exact V.ri rfl ⟨rfl, rfl⟩
          · refine V.tableIn (tgt := 47) rfl (by decide) (by decide) rfl rfl ?_
            refine V.run 20 rfl ?_
            refine V.cv rfl (c_fieldsOfE hB hxN (hr.2.1 x hxN hs.2.1)) rfl rfl ?_
            rintro _ _ ⟨rfl, rfl⟩
            exact V.ri rfl ⟨rfl, rfl⟩
          · refine V.tableIn (tgt := 56) rfl (by decide) (by decide) rfl rfl ?_
            refine V.run 20 rfl ?_
            refine V.cv rfl (c_fieldsOfE hB hxN hfa) rfl rfl ?_
            rintro _ _ ⟨rfl, rfl⟩
            refine V.cs rfl (c_classFor hm) rfl ?_
            rintro _ _ ⟨rfl, rfl⟩
            exact V.ri rfl ⟨congrArg (fun z => some (Value.int z)) hcl.symm, rfl⟩
          · refine V.tableIn (tgt := 68) rfl (by decide) (by decide) rfl rfl ?_
            refine V.run 20 rfl ?_
            refine V.cv rfl (c_isWatchedE hB hxN (hr.1.2.1 x hxN) h01) rfl rfl ?_
            rintro _ _ ⟨rfl, rfl⟩
            refine V.cs rfl (c_oneIfz h01) rfl ?_
            rintro _ _ ⟨rfl, rfl⟩
            exact V.ri rfl ⟨rfl, rfl⟩
          · refine V.tableOut (tgt := 80) rfl (Or.inr (by decide)) rfl ?_
            refine V.run 20 rfl ?_
            have hmk := hr.2.2.2.2.2.2.2.2 x hxN
            by_cases q : a 6 x = -1
            · have hsb : sB s x = false := by rw [← hmk]; simp [mkB, q]
              refine V.cv rfl (c_whas0 false hB hxN q) rfl rfl ?_
              rintro _ _ ⟨rfl, rfl⟩
              refine V.cs rfl c_oneIf0 rfl ?_
              rintro _ _ ⟨rfl, rfl⟩
              exact V.ri rfl ⟨by rw [hsb]; rfl, rfl⟩
            · have hsb : sB s x = true := by rw [← hmk]; simp [mkB, q]
              refine V.cv rfl (c_whas1 false hB hxN q) rfl rfl ?_
              rintro _ _ ⟨rfl, rfl⟩
              refine V.cs rfl c_oneIf1 rfl ?_
              rintro _ _ ⟨rfl, rfl⟩
              exact V.ri rfl ⟨by rw [hsb]; rfl, rfl⟩
        · rintro _ _ ⟨rfl, rfl⟩
          refine V.run 20 rfl ?_
          exact V.ri rfl ⟨rfl, rfl⟩
theorem c_sweep (hB : B ≤ 16) {n : Nat} {s : AS} (hI : Inv B n s) (hr : RepC B a v s) : Tot none kX4_sweep [.ref 0] (wC B a v r) (rC B r (opSweep B s)) := by
  refine eX4_sweep ?_
  refine V.run 20 rfl ?_
  refine V.cv rfl (c_firstUnswept hB hI.1 hr.1) rfl rfl ?_
  rintro _ _ ⟨rfl, rfl⟩
  refine V.run 20 rfl ?_
  unfold opSweep
  cases h : ff (fun b => decide ((sK s).2.2.2.1 b = 1)) B 0 with
  | none =>
    refine V.cv rfl c_clean0 rfl rfl ?_
    rintro _ _ ⟨rfl, rfl⟩
    refine V.run 20 rfl ?_
    exact V.ri rfl ⟨rfl, a, v, rfl, hr⟩
  | some b =>
    obtain ⟨-, hb, hp, -⟩ := ff_some h
    refine V.cv rfl (c_cleanM hB hr.2.2.2.2.2.2.2.2 hI.1 hr.1 (show b < B by omega) (of_decide_eq_true hp)) rfl rfl ?_
    rintro _ _ ⟨rfl, a', v', rfl, hf, hk⟩
    refine V.run 20 rfl ?_
    obtain ⟨f1, f2, f3⟩ := hf
    obtain ⟨h1, h2, h3, h4, h5, h6, h7, h8, h9⟩ := hr
    refine V.ri rfl ⟨rfl, a', v', rfl, hk, fun w hw hn => ?_, ?_, ?_, ?_, ?_, ?_, ?_, ?_⟩
    · have hn' : a' 0 w ≠ -1 := by rw [hk.1 w hw]; exact hn
      obtain ⟨e1, e2⟩ := f3 w hw hn'
      rw [e1]
      exact h2 w hw (by rw [← h1.1 w hw, ← e2]; exact hn')
    · rw [f1 3 (by omega) (by omega) (by omega) (by omega) (by omega)]; exact h3
    · rw [f1 4 (by omega) (by omega) (by omega) (by omega) (by omega)]; exact h4
    · rw [f1 12 (by omega) (by omega) (by omega) (by omega) (by omega)]; exact h5
    · rw [f1 9 (by omega) (by omega) (by omega) (by omega) (by omega), f2 6 (by omega)]; exact h6
    · rw [f2 0 (by omega)]; exact h7
    · rw [f2 1 (by omega)]; exact h8
    · rw [f1 6 (by omega) (by omega) (by omega) (by omega) (by omega)]; exact h9
theorem c_markAllS (hB : B ≤ 16) {n : Nat} {s : AS} (hI : Inv B n s) (hr : RepC B a v s) : Tot none kX4_markAll [.ref 0] (wC B a v r) (fun o w' => o = none ∧ ∃ a' v', w' = wC B a' v' r ∧ RepC B a' v' (mrk B s) ∧ v' 2 = nI (mL3 B (sK s).1 (sF s) (sK s).2.1 (sD s) (sV s) (sR s) (sQ s)).length) := by
  have hp := hpC hI hr
  obtain ⟨h1, h2, h3, h4, h5, h6, h7, h8, h9⟩ := id hr
  have hrt : rtOK (a 12) (safe B s) := fun i hi => by rw [h5 i hi]; exact hI.2.2.1 i hi
  have hwt : wtOK (32 * B) (a 0) (a 2) (safe B s) := by
    obtain ⟨w1, w2, w3⟩ := hI.2.2.2.2.1
    refine ⟨fun w hw => by rw [h1.2.1 w hw]; exact w1 w hw, fun w hw q => w2 w hw (by rw [← h1.2.1 w hw]; exact q), fun x y hx hy q1 q2 q3 => w3 x y hx hy (by rw [← h1.2.1 x hx]; exact q1) (by rw [← h1.2.1 y hy]; exact q2) (by rw [← h1.1 x hx, ← h1.1 y hy]; exact q3)⟩
  have hag : agr (32 * B) (safe B s) (a 1) (a 3) (a 4) (sF s) (sD s) (sV s) := ⟨fun x hx => h2 x hx.1 hx.2.1, h3, h4⟩
  obtain ⟨e1, e2, e3, e4, e5, e6⟩ := mrk_congr hB hp hag hrt h5 hI.2.2.2.1.2 h1.1 h1.2.1 hwt
  refine (c_markAll hB hp hrt hwt h6 hI.2.2.2.1).mono ?_
  rintro o w' ⟨rfl, fq, nq, f, g, nn, u, rfl, q1, q2, q3, q4, q5⟩
  refine ⟨rfl, _, _, rfl, ⟨⟨h1.1, e3, h1.2.2.1, fun b hb => ?_, h1.2.2.2.2⟩, h2, e5, e6, h5, ?_, h7, ?_, fun w hw => ?_⟩, ?_⟩
  · show u b = if (sK s).2.2.1 b = -1 then 0 else 1
    rw [q5 b hb, h1.2.2.1 b hb]
  · show Ql (sQ s ++ mT B (sK s).1 (sF s) (sK s).2.1 (sD s) (sV s) (sR s) (sQ s)) fq nq
    rw [← e2]; exact q1
  · show v 1 + nI 1 = sN s + nI 1
    rw [h8]
  · show mkB g w = decide (w ∈ mL3 B (sK s).1 (sF s) (sK s).2.1 (sD s) (sV s) (sR s) (sQ s))
    rw [← e4]
    have hl := q4.len hp
    have := q3.iff (by omega) hw
    unfold mkB
    rw [Bool.eq_iff_iff]
    simp [this]
  · show nn = _
    rw [← e4]; exact q3.1
theorem c_mark (hB : B ≤ 16) {n : Nat} {s : AS} (hI : Inv B n s) (hr : RepC B a v s) : Tot none kX4_mark [.ref 0] (wC B a v r) (rC B r (opMark B s)) := by
  refine eX4_mark ?_
  refine V.run 20 rfl ?_
  refine V.cv rfl (c_markAllS hB hI hr) rfl rfl ?_
  rintro _ _ ⟨rfl, a', v', rfl, hr', h2⟩
  refine V.run 20 rfl ?_
  refine V.cv rfl (c_wsize false) rfl rfl ?_
  rintro _ _ ⟨rfl, rfl⟩
  exact V.ri rfl ⟨congrArg (fun z => some (Value.int z)) h2, a', v', rfl, hr'⟩
end CP3
