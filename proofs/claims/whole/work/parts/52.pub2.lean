section CP2
variable {B : Nat} {a : Nat → Nat → Int32} {v : Nat → Int32} {r : xW}
theorem c_link (hB : B ≤ 16) {n : Nat} {s : AS} (hI : Inv B n s) (hr : RepC B a v s) (root field to wk : Int32) : Tot none kX4_link [.ref 0, .int root, .int field, .int to, .int wk] (wC B a v r) (rC B r (opLink s root field to wk)) := by
  refine eX4_link ?_
  refine V.run 20 rfl ?_
  refine V.cv rfl (c_fieldFault hB hI hr root field) rfl rfl ?_
  rintro _ _ ⟨rfl, rfl⟩
  refine V.run 20 rfl ?_
  unfold opLink
  rcases ixN_or (n := 16) (by omega) to with ⟨hbad, e⟩ | ⟨t, ht, rfl, e⟩
  · rw [e]
    refine V.br rfl rfl (fun h => ?_) (fun h => ?_)
    · refine V.run 20 rfl ?_
      exact V.ri rfl ⟨rfl, a, v, rfl, hr⟩
    · refine V.run 20 rfl ?_
      refine V.cs rfl (c_isRoot0 hbad) rfl ?_
      rintro _ _ ⟨rfl, rfl⟩
      refine V.brF rfl rfl (fun h => h i0_eq0) ?_
      refine V.run 20 rfl ?_
      exact V.ri rfl ⟨rfl, a, v, rfl, hr⟩
  · rw [e]
    rcases fl_code hI root field with ⟨e2, he, h23⟩ | ⟨q, hq⟩
    · rw [he]
      rcases h23 with rfl | rfl
      · refine V.brT rfl rfl rfl ?_
        refine V.run 20 rfl ?_
        exact V.ri rfl ⟨rfl, a, v, rfl, hr⟩
      · refine V.brF rfl rfl (by decide) ?_
        refine V.run 20 rfl ?_
        refine V.cs rfl (c_isRoot1 ht) rfl ?_
        rintro _ _ ⟨rfl, rfl⟩
        refine V.brT rfl rfl i1_ne0 ?_
        refine V.run 20 rfl ?_
        refine V.brT rfl rfl rfl ?_
        refine V.run 20 rfl ?_
        exact V.ri rfl ⟨rfl, a, v, rfl, hr⟩
    · obtain ⟨i, m, hi, rfl, hx, rfl, hjm, hm, hf, hs, hN, hj⟩ := fl_ok hB hI hq
      rw [hq]
      refine V.brF rfl rfl (show ¬ nI 0 = -2 by decide) ?_
      refine V.run 20 rfl ?_
      refine V.cs rfl (c_isRoot1 ht) rfl ?_
      rintro _ _ ⟨rfl, rfl⟩
      refine V.brT rfl rfl i1_ne0 ?_
      refine V.run 20 rfl ?_
      refine V.brF rfl rfl (show ¬ nI 0 = -3 by decide) ?_
      refine V.run 20 rfl ?_
      refine V.ialE rfl rfl rfl ht (by omega) (hr.2.2.2.2.1 t ht) ?_
      refine V.run 20 rfl ?_
      dsimp only
      by_cases h0 : sR s t = -1
      · refine V.brF rfl rfl (fun h => h h0) ?_
        refine V.run 20 rfl ?_
        exact V.ri rfl ⟨by rw [if_pos h0], a, v, rfl, by rw [if_pos h0]; exact hr⟩
      · rw [if_neg h0]
        refine V.brT rfl rfl h0 ?_
        refine V.run 20 rfl ?_
        refine V.ialE rfl rfl rfl hi (by omega) ((hr.2.2.2.2.1 i hi).trans hx) ?_
        refine V.run 20 rfl ?_
        refine V.br rfl rfl (fun h => ?_) (fun h => ?_)
        · rw [if_pos h]
          refine V.run 20 rfl ?_
          refine V.ialE rfl rfl rfl ht (by omega) (hr.2.2.2.2.1 t ht) ?_
          refine V.cv rfl (c_write hB (show q.1 + 1 + q.2 < 32 * B by omega)) rfl rfl ?_
          rintro _ _ ⟨rfl, rfl⟩
          refine V.run 20 rfl ?_
          exact V.ri rfl ⟨rfl, _, _, rfl, hr.upKV (q.1 + 1 + q.2) (nI 1) (sR s t)⟩
        · rw [if_neg h]
          refine V.run 20 rfl ?_
          refine V.ialE rfl rfl rfl ht (by omega) (hr.2.2.2.2.1 t ht) ?_
          refine V.cv rfl (c_write hB (show q.1 + 1 + q.2 < 32 * B by omega)) rfl rfl ?_
          rintro _ _ ⟨rfl, rfl⟩
          refine V.run 20 rfl ?_
          exact V.ri rfl ⟨rfl, _, _, rfl, hr.upKV (q.1 + 1 + q.2) (nI 2) (sR s t)⟩
theorem c_refers (hB : B ≤ 16) {n : Nat} {s : AS} (hI : Inv B n s) (hr : RepC B a v s) (root field : Int32) : Tot none kX4_refers [.ref 0, .int root, .int field] (wC B a v r) (rI (opRefers s root field) (wC B a v r)) := by
  refine eX4_refers ?_
  refine V.run 20 rfl ?_
  refine V.cv rfl (c_fieldFault hB hI hr root field) rfl rfl ?_
  rintro _ _ ⟨rfl, rfl⟩
  unfold opRefers
  rcases fl_code hI root field with ⟨e, he, h23⟩ | ⟨q, hq⟩
  · rw [he]
    refine V.run 20 rfl ?_
    refine V.brT rfl rfl (by rcases h23 with rfl | rfl <;> decide) ?_
    refine V.run 20 rfl ?_
    exact V.ri rfl ⟨rfl, rfl⟩
  · obtain ⟨i, m, hi, rfl, hx, rfl, hjm, hm, hf, hs, hN, hj⟩ := fl_ok hB hI hq
    rw [hq]
    refine V.run 20 rfl ?_
    refine V.brF rfl rfl (fun h => h i0_eq0) ?_
    refine V.run 20 rfl ?_
    refine V.ialE rfl rfl rfl hi (by omega) ((hr.2.2.2.2.1 i hi).trans hx) ?_
    refine V.run 20 rfl ?_
    refine V.cv rfl (c_kindOfE hB (show q.1 + 1 + q.2 < 32 * B by omega) (hr.2.2.1 _ (by omega))) rfl rfl ?_
    rintro _ _ ⟨rfl, rfl⟩
    refine V.run 20 rfl ?_
    exact V.ri rfl ⟨rfl, rfl⟩
theorem c_number (hB : B ≤ 16) {n : Nat} {s : AS} (hI : Inv B n s) (hr : RepC B a v s) (root field : Int32) : Tot none kX4_number [.ref 0, .int root, .int field] (wC B a v r) (rI (opNumber s root field) (wC B a v r)) := by
  refine eX4_number ?_
  refine V.run 20 rfl ?_
  refine V.cv rfl (c_fieldFault hB hI hr root field) rfl rfl ?_
  rintro _ _ ⟨rfl, rfl⟩
  unfold opNumber
  rcases fl_code hI root field with ⟨e, he, h23⟩ | ⟨q, hq⟩
  · rw [he]
    refine V.brT rfl rfl (by rcases h23 with rfl | rfl <;> decide) ?_
    refine V.run 20 rfl ?_
    exact V.ri rfl ⟨rfl, rfl⟩
  · obtain ⟨i, m, hi, rfl, hx, rfl, hjm, hm, hf, hs, hN, hj⟩ := fl_ok hB hI hq
    rw [hq]
    refine V.brF rfl rfl (fun h => h i0_eq0) ?_
    refine V.run 20 rfl ?_
    refine V.ialE rfl rfl rfl hi (by omega) ((hr.2.2.2.2.1 i hi).trans hx) ?_
    refine V.run 20 rfl ?_
    refine V.cv rfl (c_kindOfE hB (show q.1 + 1 + q.2 < 32 * B by omega) (hr.2.2.1 _ (by omega))) rfl rfl ?_
    rintro _ _ ⟨rfl, rfl⟩
    refine V.br rfl rfl (fun h => ?_) (fun h => ?_)
    · refine V.run 20 rfl ?_
      refine V.ialE rfl rfl rfl hi (by omega) ((hr.2.2.2.2.1 i hi).trans hx) ?_
      refine V.run 20 rfl ?_
      refine V.cv rfl (c_valueOfE hB (show q.1 + 1 + q.2 < 32 * B by omega) (hr.2.2.2.1 _ (by omega))) rfl rfl ?_
      rintro _ _ ⟨rfl, rfl⟩
      exact V.ri rfl ⟨by dsimp only; rw [if_pos h], rfl⟩
    · refine V.run 20 rfl ?_
      exact V.ri rfl ⟨by dsimp only; rw [if_neg h], rfl⟩
theorem nmO_C (hB : B ≤ 16) {n : Nat} {s : AS} (hI : Inv B n s) (hr : RepC B a v s) {z : Int32} (hz : z = -1 ∨ ∃ x, z = nI x ∧ safe B s x) {a' : Nat → Nat → Int32} {v' : Nat → Int32} (h0 : a' 0 = a 0) : Tot none kX2_nameAt [.ref 1, .int z] (wC B a' v' r) (rI (nmO s z) (wC B a' v' r)) := by
  unfold nmO
  rcases hz with rfl | ⟨x, rfl, hs⟩
  · rw [if_pos rfl]; exact c_nameAt0
  · have hx := hs.1
    rw [if_neg (nI_m1 (by omega)), nI_clamp (by omega)]
    exact c_nameAtE hB hx (by rw [h0]; exact hr.1.1 x hx)
theorem c_load (hB : B ≤ 16) {n : Nat} {s : AS} (hI : Inv B n s) (hr : RepC B a v s) (root frm field : Int32) : Tot none kX4_load [.ref 0, .int root, .int frm, .int field] (wC B a v r) (rC B r (opLoad s root frm field)) := by
  refine eX4_load ?_
  refine V.run 20 rfl ?_
  refine V.cv rfl (c_fieldFault hB hI hr frm field) rfl rfl ?_
  rintro _ _ ⟨rfl, rfl⟩
  refine V.run 20 rfl ?_
  unfold opLoad
  rcases ixN_or (n := 16) (by omega) root with ⟨hbad, e⟩ | ⟨t, ht, rfl, e⟩
  · rw [e]
    refine V.br rfl rfl (fun h => ?_) (fun h => ?_)
    · refine V.run 20 rfl ?_
      exact V.ri rfl ⟨rfl, a, v, rfl, hr⟩
    · refine V.run 20 rfl ?_
      refine V.cs rfl (c_isRoot0 hbad) rfl ?_
      rintro _ _ ⟨rfl, rfl⟩
      refine V.brF rfl rfl (fun h => h i0_eq0) ?_
      refine V.run 20 rfl ?_
      exact V.ri rfl ⟨rfl, a, v, rfl, hr⟩
  · rw [e]
    rcases fl_code hI frm field with ⟨e2, he, h23⟩ | ⟨q, hq⟩
    · rw [he]
      rcases h23 with rfl | rfl
      · refine V.brT rfl rfl rfl ?_
        refine V.run 20 rfl ?_
        exact V.ri rfl ⟨rfl, a, v, rfl, hr⟩
      · refine V.brF rfl rfl (by decide) ?_
        refine V.run 20 rfl ?_
        refine V.cs rfl (c_isRoot1 ht) rfl ?_
        rintro _ _ ⟨rfl, rfl⟩
        refine V.brT rfl rfl i1_ne0 ?_
        refine V.run 20 rfl ?_
        refine V.brT rfl rfl rfl ?_
        refine V.run 20 rfl ?_
        exact V.ri rfl ⟨rfl, a, v, rfl, hr⟩
    · obtain ⟨i, m, hi, rfl, hx, rfl, hjm, hm, hf, hs, hN, hj⟩ := fl_ok hB hI hq
      rw [hq]
      refine V.brF rfl rfl (show ¬ nI 0 = -2 by decide) ?_
      refine V.run 20 rfl ?_
      refine V.cs rfl (c_isRoot1 ht) rfl ?_
      rintro _ _ ⟨rfl, rfl⟩
      refine V.brT rfl rfl i1_ne0 ?_
      refine V.run 20 rfl ?_
      refine V.brF rfl rfl (show ¬ nI 0 = -3 by decide) ?_
      refine V.run 20 rfl ?_
      refine V.ialE rfl rfl rfl hi (by omega) ((hr.2.2.2.2.1 i hi).trans hx) ?_
      refine V.run 20 rfl ?_
      refine V.cv rfl (c_kindOfE hB (show q.1 + 1 + q.2 < 32 * B by omega) (hr.2.2.1 _ (by omega))) rfl rfl ?_
      rintro _ _ ⟨rfl, rfl⟩
      dsimp only
      by_cases h0 : sD s (q.1 + 1 + q.2) = 0
      · rw [if_pos h0]
        refine V.brF rfl rfl (fun h => h h0) ?_
        refine V.run 20 rfl ?_
        exact V.ri rfl ⟨rfl, a, v, rfl, hr⟩
      · rw [if_neg h0]
        refine V.brT rfl rfl h0 ?_
        refine V.run 20 rfl ?_
        refine V.ialE rfl rfl rfl hi (by omega) ((hr.2.2.2.2.1 i hi).trans hx) ?_
        refine V.run 20 rfl ?_
        refine V.cv rfl (c_valueOfE hB (show q.1 + 1 + q.2 < 32 * B by omega) (hr.2.2.2.1 _ (by omega))) rfl rfl ?_
        rintro _ _ ⟨rfl, rfl⟩
        refine V.iast (w' := wC B (uA a 12 t (sV s (q.1 + 1 + q.2))) v r) rfl rfl rfl ht (by omega) rfl ?_
        refine V.run 20 rfl ?_
        refine V.ialE rfl rfl rfl ht (by omega) (show upd (a 12) t _ t = _ from upd_s) ?_
        have hz : ∃ y, sV s (q.1 + 1 + q.2) = nI y ∧ safe B s y := by
          obtain ⟨-, -, m', hm', hf', -, hj'⟩ := hI.2.1 q.1 hs
          have : m' = m := nI_inj (by omega) (by omega) (hf'.symm.trans hf)
          subst this
          rcases hj' q.2 hjm with h | ⟨-, h⟩
          · exact absurd h h0
          · exact h
        refine V.cv rfl (nmO_C hB hI hr (Or.inr hz) rfl) rfl rfl ?_
        rintro _ _ ⟨rfl, rfl⟩
        exact V.ri rfl ⟨rfl, _, _, rfl, hr.upR t _⟩
theorem c_copy (hB : B ≤ 16) {n : Nat} {s : AS} (hI : Inv B n s) (hr : RepC B a v s) (root frm : Int32) : Tot none kX4_copy [.ref 0, .int root, .int frm] (wC B a v r) (rC B r (opCopy s root frm)) := by
  refine eX4_copy ?_
  refine V.run 20 rfl ?_
  unfold opCopy
  rcases ixN_or (n := 16) (by omega) root with ⟨hbad, e⟩ | ⟨i, hi, rfl, e⟩
  · rw [e]
    refine V.cs rfl (c_isRoot0 hbad) rfl ?_
    rintro _ _ ⟨rfl, rfl⟩
    refine V.brT rfl rfl i0_eq0 ?_
    refine V.run 20 rfl ?_
    exact V.ri rfl ⟨rfl, a, v, rfl, hr⟩
  · rw [e]
    refine V.cs rfl (c_isRoot1 hi) rfl ?_
    rintro _ _ ⟨rfl, rfl⟩
    refine V.brF rfl rfl i1_ne0 ?_
    refine V.run 20 rfl ?_
    rcases ixN_or (n := 16) (by omega) frm with ⟨hbad, e2⟩ | ⟨j, hj, rfl, e2⟩
    · rw [e2]
      refine V.cs rfl (c_isRoot0 hbad) rfl ?_
      rintro _ _ ⟨rfl, rfl⟩
      refine V.brF rfl rfl (fun h => h i0_eq0) ?_
      refine V.run 20 rfl ?_
      exact V.ri rfl ⟨rfl, a, v, rfl, hr⟩
    · rw [e2]
      refine V.cs rfl (c_isRoot1 hj) rfl ?_
      rintro _ _ ⟨rfl, rfl⟩
      refine V.brT rfl rfl i1_ne0 ?_
      refine V.run 20 rfl ?_
      refine V.ialE rfl rfl rfl hj (by omega) (hr.2.2.2.2.1 j hj) ?_
      refine V.iast (w' := wC B (uA a 12 i (sR s j)) v r) rfl rfl rfl hi (by omega) rfl ?_
      refine V.run 20 rfl ?_
      refine V.ialE rfl rfl rfl hi (by omega) (show upd (a 12) i _ i = _ from upd_s) ?_
      refine V.cv rfl (nmO_C hB hI hr (hI.2.2.1 j hj) rfl) rfl rfl ?_
      rintro _ _ ⟨rfl, rfl⟩
      exact V.ri rfl ⟨rfl, _, _, rfl, hr.upR i _⟩
theorem c_drop (hB : B ≤ 16) {n : Nat} {s : AS} (hI : Inv B n s) (hr : RepC B a v s) (root : Int32) : Tot none kX4_drop [.ref 0, .int root] (wC B a v r) (rC B r (opDrop s root)) := by
  refine eX4_drop ?_
  refine V.run 20 rfl ?_
  unfold opDrop
  rcases ixN_or (n := 16) (by omega) root with ⟨hbad, e⟩ | ⟨i, hi, rfl, e⟩
  · rw [e]
    refine V.cs rfl (c_isRoot0 hbad) rfl ?_
    rintro _ _ ⟨rfl, rfl⟩
    refine V.brF rfl rfl (fun h => h i0_eq0) ?_
    refine V.run 20 rfl ?_
    exact V.ri rfl ⟨rfl, a, v, rfl, hr⟩
  · rw [e]
    refine V.cs rfl (c_isRoot1 hi) rfl ?_
    rintro _ _ ⟨rfl, rfl⟩
    refine V.brT rfl rfl i1_ne0 ?_
    refine V.run 20 rfl ?_
    refine V.ialE rfl rfl rfl hi (by omega) (hr.2.2.2.2.1 i hi) ?_
    refine V.run 20 rfl ?_
    refine V.br rfl rfl (fun h => ?_) (fun h => ?_)
    · refine V.run 20 rfl ?_
      refine V.cs rfl c_oneIf0 rfl ?_
      rintro _ _ ⟨rfl, rfl⟩
      refine V.run 20 rfl ?_
      refine V.iast (w' := wC B (uA a 12 i (-1)) v r) rfl rfl rfl hi (by omega) rfl ?_
      refine V.run 20 rfl ?_
      exact V.ri rfl ⟨by dsimp only; rw [if_pos h], _, _, rfl, hr.upR i _⟩
    · refine V.run 20 rfl ?_
      refine V.cs rfl c_oneIf1 rfl ?_
      rintro _ _ ⟨rfl, rfl⟩
      refine V.run 20 rfl ?_
      refine V.iast (w' := wC B (uA a 12 i (-1)) v r) rfl rfl rfl hi (by omega) rfl ?_
      refine V.run 20 rfl ?_
      exact V.ri rfl ⟨by dsimp only; rw [if_neg h], _, _, rfl, hr.upR i _⟩
theorem c_watch (hB : B ≤ 16) {n : Nat} {s : AS} (hI : Inv B n s) (hr : RepC B a v s) (root on : Int32) (hon : on = 0 ∨ on = 1) : Tot none kX4_watch [.ref 0, .int root, .int on] (wC B a v r) (rC B r (opWatch s root on)) := by
  refine eX4_watch ?_
  refine V.run 20 rfl ?_
  unfold opWatch
  rcases ixN_or (n := 16) (by omega) root with ⟨hbad, e⟩ | ⟨i, hi, rfl, e⟩
  · rw [e]
    refine V.cv rfl (c_rootFault0 hbad) rfl rfl ?_
    rintro _ _ ⟨rfl, rfl⟩
    refine V.run 20 rfl ?_
    refine V.brF rfl rfl (by decide) ?_
    refine V.run 20 rfl ?_
    exact V.ri rfl ⟨rfl, a, v, rfl, hr⟩
  · rw [e]
    dsimp only
    have h12 := hr.2.2.2.2.1 i hi
    rcases hI.2.2.1 i hi with h0 | ⟨x, hx, hs⟩
    · rw [if_pos h0]
      refine V.cv rfl (c_rootFault1 hi (h12.trans h0)) rfl rfl ?_
      rintro _ _ ⟨rfl, rfl⟩
      refine V.run 20 rfl ?_
      refine V.brF rfl rfl (by decide) ?_
      refine V.run 20 rfl ?_
      exact V.ri rfl ⟨rfl, a, v, rfl, hr⟩
    · have hxN := hs.1
      have h01 := hI.2.2.2.2.1.1 x hxN
      rw [hx, if_neg (nI_m1 (by omega)), nI_clamp (by omega)]
      refine V.cv rfl (c_rootFault2 hi (h12.trans hx) (by omega)) rfl rfl ?_
      rintro _ _ ⟨rfl, rfl⟩
      refine V.run 20 rfl ?_
      refine V.brT rfl rfl i0_eq0 ?_
      refine V.run 20 rfl ?_
      refine V.ialE rfl rfl rfl hi (by omega) (h12.trans hx) ?_
      refine V.cv rfl (c_isWatchedE hB hxN (hr.1.2.1 x hxN) h01) rfl rfl ?_
      rintro _ _ ⟨rfl, rfl⟩
      refine V.cs rfl (c_oneIfz h01) rfl ?_
      rintro _ _ ⟨rfl, rfl⟩
      refine V.run 20 rfl ?_
      refine V.ialE rfl rfl rfl hi (by omega) (h12.trans hx) ?_
      refine V.run 20 rfl ?_
      refine V.cv rfl (c_setWatched hB hxN hon) rfl rfl ?_
      rintro _ _ ⟨rfl, rfl⟩
      refine V.run 20 rfl ?_
      obtain ⟨⟨k1, k2, k3, k4, k5⟩, h2, h3, h4, h5, h6, h7, h8, h9⟩ := hr
      refine V.ri rfl ⟨rfl, _, _, rfl, ⟨k1, fun w hw => ?_, k3, k4, k5⟩, h2, h3, h4, h5, h6, h7, h8, h9⟩
      show upd (a 2) x on w = upd (sK s).2.1 x on w
      by_cases q : w = x
      · subst q; rw [upd_s, upd_s]
      · rw [upd_n q, upd_n q]; exact k2 w hw
theorem c_next (hB : B ≤ 16) {n : Nat} {s : AS} (hI : Inv B n s) (hr : RepC B a v s) (root : Int32) : Tot none kX4_next [.ref 0, .int root] (wC B a v r) (rC B r (opNext s root)) := by
  refine eX4_next ?_
  refine V.run 20 rfl ?_
  unfold opNext
  rcases ixN_or (n := 16) (by omega) root with ⟨hbad, e⟩ | ⟨i, hi, rfl, e⟩
  · rw [e]
    refine V.cs rfl (c_isRoot0 hbad) rfl ?_
    rintro _ _ ⟨rfl, rfl⟩
    refine V.brF rfl rfl (fun h => h i0_eq0) ?_
    refine V.run 20 rfl ?_
    exact V.ri rfl ⟨rfl, a, v, rfl, hr⟩
  · rw [e]
    refine V.cs rfl (c_isRoot1 hi) rfl ?_
    rintro _ _ ⟨rfl, rfl⟩
    refine V.brT rfl rfl i1_ne0 ?_
    refine V.run 20 rfl ?_
    have hq := hr.2.2.2.2.2.1
    have hqG := hI.2.2.2.1
    have hql := hqG.len hI.2.1
    cases hQ : sQ s with
    | nil =>
      rw [hQ] at hq
      refine V.cv rfl (c_takeFirst0 hq.1) rfl rfl ?_
      rintro _ _ ⟨rfl, rfl⟩
      refine V.run 20 rfl ?_
      refine V.brF rfl rfl (fun h => h rfl) ?_
      refine V.run 20 rfl ?_
      exact V.ri rfl ⟨rfl, a, v, rfl, hr⟩
    | cons x q =>
      rw [hQ] at hq hqG hql
      have hxs := hqG.2 x List.mem_cons_self
      have hxN := hxs.1
      refine V.cv rfl (c_takeFirst hB hq hql) rfl rfl ?_
      rintro _ _ ⟨rfl, f, n', rfl, hq'⟩
      refine V.run 20 rfl ?_
      refine V.brT rfl rfl (nI_m1 (by omega)) ?_
      refine V.run 20 rfl ?_
      refine V.iast (w' := wC B (uA (setA a 9 f) 12 i (nI x)) (uV v 6 n') r) rfl rfl rfl hi (by omega) rfl ?_
      refine V.run 20 rfl ?_
      refine V.cv rfl (c_nameAtE hB hxN (by exact hr.1.1 x hxN)) rfl rfl ?_
      rintro _ _ ⟨rfl, rfl⟩
      obtain ⟨h1, h2, h3, h4, h5, h6, h7, h8, h9⟩ := hr
      refine V.ri rfl ⟨rfl, _, _, rfl, h1, h2, h3, h4, fun w hw => ?_, hq', h7, h8, h9⟩
      show upd (a 12) i (nI x) w = upd (sR s) i (nI x) w
      by_cases q : w = i
      · subst q; rw [upd_s, upd_s]
      · rw [upd_n q, upd_n q]; exact h5 w hw
theorem c_same (hB : B ≤ 16) {n : Nat} {s : AS} (hI : Inv B n s) (hr : RepC B a v s) (one other : Int32) : Tot none kX4_same [.ref 0, .int one, .int other] (wC B a v r) (rI (opSame s one other) (wC B a v r)) := by
  refine eX4_same ?_
  refine V.run 20 rfl ?_
  unfold opSame
  rcases ixN_or (n := 16) (by omega) one with ⟨hbad, e⟩ | ⟨i, hi, rfl, e⟩
  · rw [e]
    refine V.cs rfl (c_isRoot0 hbad) rfl ?_
    rintro _ _ ⟨rfl, rfl⟩
    refine V.brT rfl rfl i0_eq0 ?_
    refine V.run 20 rfl ?_
    exact V.ri rfl ⟨rfl, rfl⟩
  · rw [e]
    refine V.cs rfl (c_isRoot1 hi) rfl ?_
    rintro _ _ ⟨rfl, rfl⟩
    refine V.brF rfl rfl i1_ne0 ?_
    refine V.run 20 rfl ?_
    rcases ixN_or (n := 16) (by omega) other with ⟨hbad, e2⟩ | ⟨j, hj, rfl, e2⟩
    · rw [e2]
      refine V.cs rfl (c_isRoot0 hbad) rfl ?_
      rintro _ _ ⟨rfl, rfl⟩
      refine V.brF rfl rfl (fun h => h i0_eq0) ?_
      refine V.run 20 rfl ?_
      exact V.ri rfl ⟨rfl, rfl⟩
    · rw [e2]
      refine V.cs rfl (c_isRoot1 hj) rfl ?_
      rintro _ _ ⟨rfl, rfl⟩
      refine V.brT rfl rfl i1_ne0 ?_
      refine V.run 20 rfl ?_
      refine V.ialE rfl rfl rfl hi (by omega) (hr.2.2.2.2.1 i hi) ?_
      refine V.run 20 rfl ?_
      refine V.ialE rfl rfl rfl hj (by omega) (hr.2.2.2.2.1 j hj) ?_
      refine V.br rfl rfl (fun h => ?_) (fun h => ?_)
      · refine V.run 20 rfl ?_
        refine V.cs rfl c_oneIf0 rfl ?_
        rintro _ _ ⟨rfl, rfl⟩
        exact V.ri rfl ⟨by dsimp only; rw [if_neg h], rfl⟩
      · refine V.run 20 rfl ?_
        refine V.cs rfl c_oneIf1 rfl ?_
        rintro _ _ ⟨rfl, rfl⟩
        exact V.ri rfl ⟨by dsimp only; rw [if_pos (Decidable.not_not.mp h)], rfl⟩
end CP2
