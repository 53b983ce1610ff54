/-! THE REFERENCE holds the state -/
def RepM (B : Nat) (a : Nat → Nat → Int32) (v : Nat → Int32) (s : AS) : Prop :=
  rpK B a v (sK s) ∧ (∀ w, w < 32 * B → (sK s).1 w ≠ -1 → a 3 w = sF s w) ∧ (∀ w, w < 32 * B → a 6 w = sD s w) ∧ (∀ w, w < 32 * B → a 7 w = sV s w) ∧ (∀ i, i < 16 → a 8 i = sR s i) ∧ Ql (sQ s) (a 9) (v 4) ∧ v 1 = sM s ∧ v 2 = sN s ∧ mkM B (a 4) (sB s)
/-- an answer that is an int, and the reference's world behind it -/
abbrev rM (cc : Nat → xC) (B : Nat) (q : Int32 × AS) : Option Value → xW → Prop := fun o w' => o = some (.int q.1) ∧ ∃ a' v', w' = wM cc B a' v' ∧ RepM B a' v' q.2
section MP
variable {cc : Nat → xC} {B : Nat} {a : Nat → Nat → Int32} {v : Nat → Int32}
theorem hpM {n : Nat} {s : AS} (hI : Inv B n s) (hr : RepM B a v s) : hpOK (32 * B) (a 3) (a 6) (a 7) (safe B s) := by
  intro x hx
  obtain ⟨h1, h2, m, h3, h4, h5, h6⟩ := hI.2.1 x hx
  refine ⟨h1, h2, m, h3, (hr.2.1 x h1 hx.2.1).trans h4, h5, fun j hj => ?_⟩
  rw [hr.2.2.1 _ (by omega), hr.2.2.2.1 _ (by omega)]
  exact h6 j hj
theorem RepM.upKV {s : AS} (hr : RepM B a v s) (w : Nat) (k z : Int32) : RepM B (uA (uA a 6 w k) 7 w z) v (upKV s w k z) := by
  obtain ⟨h1, h2, h3, h4, h5, h6, h7, h8, h9⟩ := hr
  refine ⟨h1, h2, fun x hx => ?_, fun x hx => ?_, h5, h6, h7, h8, h9⟩
  · show upd (a 6) w k x = upd (sD s) w k x
    by_cases q : x = w
    · subst q; rw [upd_s, upd_s]
    · rw [upd_n q, upd_n q]; exact h3 x hx
  · show upd (a 7) w z x = upd (sV s) w z x
    by_cases q : x = w
    · subst q; rw [upd_s, upd_s]
    · rw [upd_n q, upd_n q]; exact h4 x hx
theorem RepM.upR {s : AS} (hr : RepM B a v s) (i : Nat) (z : Int32) : RepM B (uA a 8 i z) v (upR s i z) := by
  obtain ⟨h1, h2, h3, h4, h5, h6, h7, h8, h9⟩ := hr
  refine ⟨h1, h2, h3, h4, fun x hx => ?_, h6, h7, h8, h9⟩
  show upd (a 8) i z x = upd (sR s) i z x
  by_cases q : x = i
  · subst q; rw [upd_s, upd_s]
  · rw [upd_n q, upd_n q]; exact h5 x hx
theorem m_wrong (hB : B ≤ 16) {n : Nat} {s : AS} (hI : Inv B n s) (hr : RepM B a v s) (root field : Int32) : Tot none kX5_wrong [.ref 19, .int root, .int field] (wM cc B a v) (rI (fcode (flt s root field)) (wM cc B a v)) := by
  refine eX5_wrong ?_
  unfold flt
  refine V.run 20 rfl ?_
  rcases ixN_or (n := 16) (by omega) root with ⟨hbad, e2⟩ | ⟨i, hi, rfl, e2⟩
  · rw [e2]
    refine V.cs rfl (m_isRoot0 hbad) rfl ?_
    rintro _ _ ⟨rfl, rfl⟩
    refine V.brT rfl rfl i0_eq0 ?_
    refine V.run 20 rfl ?_
    refine V.ri rfl ⟨?_, rfl⟩
    cases ixN 15 field <;> rfl
  · rw [e2]
    refine V.cs rfl (m_isRoot1 hi) rfl ?_
    rintro _ _ ⟨rfl, rfl⟩
    refine V.brF rfl rfl i1_ne0 ?_
    refine V.run 20 rfl ?_
    rcases ixN_or (n := 15) (by omega) field with ⟨hbad, e⟩ | ⟨j, hj, rfl, e⟩
    · rw [e]
      refine V.cs rfl (m_in0 (h := 14) (by omega) hbad) rfl ?_
      rintro _ _ ⟨rfl, rfl⟩
      refine V.brT rfl rfl i0_eq0 ?_
      refine V.run 20 rfl ?_
      exact V.ri rfl ⟨rfl, rfl⟩
    · rw [e]
      refine V.cs rfl (m_in1 (h := 14) (by omega) (by omega)) rfl ?_
      rintro _ _ ⟨rfl, rfl⟩
      refine V.brF rfl rfl i1_ne0 ?_
      refine V.run 20 rfl ?_
      have h8 := hr.2.2.2.2.1 i hi
      rcases hI.2.2.1 i hi with h0 | ⟨x, hx, hs⟩
      · refine V.ialE rfl rfl rfl hi (by omega) (h8.trans h0) ?_
        refine V.run 20 rfl ?_
        refine V.brT rfl rfl rfl ?_
        refine V.run 20 rfl ?_
        refine V.ialE rfl rfl rfl hi (by omega) (h8.trans h0) ?_
        refine V.run 20 rfl ?_
        refine V.brF rfl rfl (fun h => h rfl) ?_
        refine V.run 20 rfl ?_
        exact V.ri rfl ⟨by dsimp only; rw [if_pos h0]; rfl, rfl⟩
      · obtain ⟨hxN, -, m, hm, hf, hN, -⟩ := hI.2.1 x hs
        refine V.ialE rfl rfl rfl hi (by omega) (h8.trans hx) ?_
        refine V.run 20 rfl ?_
        refine V.brF rfl rfl (nI_m1 (by omega)) ?_
        refine V.run 20 rfl ?_
        refine V.ialE rfl rfl rfl hi (by omega) (h8.trans hx) ?_
        refine V.ialE rfl rfl rfl (show x < 512 by omega) (by omega) ((hr.2.1 x hxN hs.2.1).trans hf) ?_
        dsimp only
        rw [hx, if_neg (nI_m1 (by omega)), nI_clamp (by omega), hf]
        refine V.br rfl rfl (fun h => ?_) (fun h => ?_)
        · refine V.run 20 rfl ?_
          refine V.ialE rfl rfl rfl hi (by omega) (h8.trans hx) ?_
          refine V.run 20 rfl ?_
          refine V.brT rfl rfl (nI_m1 (by omega)) ?_
          refine V.run 20 rfl ?_
          exact V.ri rfl ⟨by rw [if_neg (Int32.not_le.mpr h)]; rfl, rfl⟩
        · refine V.run 20 rfl ?_
          exact V.ri rfl ⟨by rw [if_pos (Int32.not_lt.mp h)]; rfl, rfl⟩
theorem m_set (hB : B ≤ 16) {n : Nat} {s : AS} (hI : Inv B n s) (hr : RepM B a v s) (root field z : Int32) : Tot none kX5_set [.ref 19, .int root, .int field, .int z] (wM cc B a v) (rM cc B (opSet s root field z)) := by
  refine eX5_set ?_
  refine V.run 20 rfl ?_
  refine V.puti (w' := wM cc B a (uV v 0 (nI 0))) rfl rfl rfl ?_
  have hr : RepM B a (uV v 0 (nI 0)) s := hr
  generalize uV v 0 (nI 0) = v at hr ⊢
  refine V.run 20 rfl ?_
  refine V.cv rfl (m_wrong hB hI hr root field) rfl rfl ?_
  rintro _ _ ⟨rfl, rfl⟩
  unfold opSet
  refine V.run 20 rfl ?_
  rcases fl_code hI root field with ⟨e, he, h23⟩ | ⟨q, hq⟩
  · rw [he]
    refine V.brT rfl rfl (by rcases h23 with rfl | rfl <;> decide) ?_
    refine V.run 20 rfl ?_
    exact V.ri rfl ⟨rfl, a, v, rfl, hr⟩
  · obtain ⟨i, m, hi, rfl, hx, rfl, hjm, hm, hf, hs, hN, hj⟩ := fl_ok hB hI hq
    rw [hq]
    refine V.brF rfl rfl (fun h => h i0_eq0) ?_
    refine V.run 20 rfl ?_
    refine V.ialE rfl rfl rfl hi (by omega) ((hr.2.2.2.2.1 i hi).trans hx) ?_
    refine V.run 20 rfl ?_
    rw [nI_add, nI_add]
    refine V.iast (w' := wM cc B (uA a 6 (q.1 + 1 + q.2) (nI 0)) v) rfl rfl rfl (show q.1 + 1 + q.2 < 512 by omega) (by omega) rfl ?_
    refine V.run 20 rfl ?_
    refine V.ialE rfl rfl rfl hi (by omega) ((hr.2.2.2.2.1 i hi).trans hx) ?_
    refine V.run 20 rfl ?_
    rw [nI_add, nI_add]
    refine V.iast (w' := wM cc B (uA (uA a 6 (q.1 + 1 + q.2) (nI 0)) 7 (q.1 + 1 + q.2) z) v) rfl rfl rfl (show q.1 + 1 + q.2 < 512 by omega) (by omega) rfl ?_
    refine V.run 20 rfl ?_
    exact V.ri rfl ⟨rfl, _, _, rfl, hr.upKV (q.1 + 1 + q.2) (nI 0) z⟩
theorem m_link (hB : B ≤ 16) {n : Nat} {s : AS} (hI : Inv B n s) (hr : RepM B a v s) (root field to wk : Int32) : Tot none kX5_link [.ref 19, .int root, .int field, .int to, .int wk] (wM cc B a v) (rM cc B (opLink s root field to wk)) := by
  refine eX5_link ?_
  refine V.run 20 rfl ?_
  refine V.puti (w' := wM cc B a (uV v 0 (nI 0))) rfl rfl rfl ?_
  have hr : RepM B a (uV v 0 (nI 0)) s := hr
  generalize uV v 0 (nI 0) = v at hr ⊢
  refine V.run 20 rfl ?_
  refine V.cv rfl (m_wrong hB hI hr root field) rfl rfl ?_
  rintro _ _ ⟨rfl, rfl⟩
  unfold opLink
  refine V.run 20 rfl ?_
  rcases ixN_or (n := 16) (by omega) to with ⟨hbad, e⟩ | ⟨t, ht, rfl, e⟩
  · rw [e]
    refine V.cs rfl (m_isRoot0 hbad) rfl ?_
    rintro _ _ ⟨rfl, rfl⟩
    refine V.brF rfl rfl (fun h => h i0_eq0) ?_
    refine V.run 20 rfl ?_
    exact V.ri rfl ⟨rfl, a, v, rfl, hr⟩
  · rw [e]
    refine V.cs rfl (m_isRoot1 ht) rfl ?_
    rintro _ _ ⟨rfl, rfl⟩
    refine V.brT rfl rfl i1_ne0 ?_
    refine V.run 20 rfl ?_
    rcases fl_code hI root field with ⟨e2, he, h23⟩ | ⟨q, hq⟩
    · rw [he]
      refine V.brF rfl rfl (by rcases h23 with rfl | rfl <;> decide) ?_
      refine V.run 20 rfl ?_
      exact V.ri rfl ⟨rfl, a, v, rfl, hr⟩
    · obtain ⟨i, m, hi, rfl, hx, rfl, hjm, hm, hf, hs, hN, hj⟩ := fl_ok hB hI hq
      rw [hq]
      refine V.brT rfl rfl i0_eq0 ?_
      refine V.run 20 rfl ?_
      refine V.ialE rfl rfl rfl ht (by omega) (hr.2.2.2.2.1 t ht) ?_
      refine V.run 20 rfl ?_
      dsimp only
      by_cases h0 : sR s t = -1
      · refine V.brF rfl rfl (fun h => h h0) ?_
        refine V.run 20 rfl ?_
        exact V.ri rfl ⟨by rw [if_pos h0], a, v, rfl, by rw [if_pos h0]; exact hr⟩
      · rw [if_neg h0]
        refine V.brT rfl rfl h0 ?_
        refine V.run 20 rfl ?_
        refine V.ialE rfl rfl rfl hi (by omega) ((hr.2.2.2.2.1 i hi).trans hx) ?_
        refine V.run 20 rfl ?_
        rw [nI_add, nI_add]
        refine V.br rfl rfl (fun h => ?_) (fun h => ?_)
        · rw [if_pos h]
          refine V.run 20 rfl ?_
          refine V.iast (w' := wM cc B (uA a 6 (q.1 + 1 + q.2) (nI 1)) v) rfl rfl rfl (show q.1 + 1 + q.2 < 512 by omega) (by omega) rfl ?_
          refine V.run 20 rfl ?_
          refine V.ialE rfl rfl rfl hi (by omega) ((hr.2.2.2.2.1 i hi).trans hx) ?_
          refine V.run 20 rfl ?_
          rw [nI_add, nI_add]
          refine V.ialE rfl rfl rfl ht (by omega) (hr.2.2.2.2.1 t ht) ?_
          refine V.iast (w' := wM cc B (uA (uA a 6 (q.1 + 1 + q.2) (nI 1)) 7 (q.1 + 1 + q.2) (sR s t)) v) rfl rfl rfl (show q.1 + 1 + q.2 < 512 by omega) (by omega) rfl ?_
          refine V.run 20 rfl ?_
          exact V.ri rfl ⟨rfl, _, _, rfl, hr.upKV (q.1 + 1 + q.2) (nI 1) (sR s t)⟩
        · rw [if_neg h]
          refine V.run 20 rfl ?_
          refine V.iast (w' := wM cc B (uA a 6 (q.1 + 1 + q.2) (nI 2)) v) rfl rfl rfl (show q.1 + 1 + q.2 < 512 by omega) (by omega) rfl ?_
          refine V.run 20 rfl ?_
          refine V.ialE rfl rfl rfl hi (by omega) ((hr.2.2.2.2.1 i hi).trans hx) ?_
          refine V.run 20 rfl ?_
          rw [nI_add, nI_add]
          refine V.ialE rfl rfl rfl ht (by omega) (hr.2.2.2.2.1 t ht) ?_
          refine V.iast (w' := wM cc B (uA (uA a 6 (q.1 + 1 + q.2) (nI 2)) 7 (q.1 + 1 + q.2) (sR s t)) v) rfl rfl rfl (show q.1 + 1 + q.2 < 512 by omega) (by omega) rfl ?_
          refine V.run 20 rfl ?_
          exact V.ri rfl ⟨rfl, _, _, rfl, hr.upKV (q.1 + 1 + q.2) (nI 2) (sR s t)⟩
theorem m_refers (hB : B ≤ 16) {n : Nat} {s : AS} (hI : Inv B n s) (hr : RepM B a v s) (root field : Int32) : Tot none kX5_refers [.ref 19, .int root, .int field] (wM cc B a v) (rM cc B (opRefers s root field, s)) := by
  refine eX5_refers ?_
  refine V.run 20 rfl ?_
  refine V.puti (w' := wM cc B a (uV v 0 (nI 0))) rfl rfl rfl ?_
  have hr : RepM B a (uV v 0 (nI 0)) s := hr
  generalize uV v 0 (nI 0) = v at hr ⊢
  refine V.run 20 rfl ?_
  refine V.cv rfl (m_wrong hB hI hr root field) rfl rfl ?_
  rintro _ _ ⟨rfl, rfl⟩
  unfold opRefers
  refine V.run 20 rfl ?_
  rcases fl_code hI root field with ⟨e, he, h23⟩ | ⟨q, hq⟩
  · rw [he]
    refine V.brF rfl rfl (by rcases h23 with rfl | rfl <;> decide) ?_
    refine V.run 20 rfl ?_
    exact V.ri rfl ⟨rfl, a, v, rfl, hr⟩
  · obtain ⟨i, m, hi, rfl, hx, rfl, hjm, hm, hf, hs, hN, hj⟩ := fl_ok hB hI hq
    rw [hq]
    refine V.brT rfl rfl i0_eq0 ?_
    refine V.run 20 rfl ?_
    refine V.ialE rfl rfl rfl hi (by omega) ((hr.2.2.2.2.1 i hi).trans hx) ?_
    refine V.run 20 rfl ?_
    rw [nI_add, nI_add]
    refine V.ialE rfl rfl rfl (show q.1 + 1 + q.2 < 512 by omega) (by omega) (hr.2.2.1 _ (by omega)) ?_
    exact V.ri rfl ⟨rfl, a, v, rfl, hr⟩
theorem m_number (hB : B ≤ 16) {n : Nat} {s : AS} (hI : Inv B n s) (hr : RepM B a v s) (root field : Int32) : Tot none kX5_number [.ref 19, .int root, .int field] (wM cc B a v) (rM cc B (opNumber s root field, s)) := by
  refine eX5_number ?_
  refine V.run 20 rfl ?_
  refine V.puti (w' := wM cc B a (uV v 0 (nI 0))) rfl rfl rfl ?_
  have hr : RepM B a (uV v 0 (nI 0)) s := hr
  generalize uV v 0 (nI 0) = v at hr ⊢
  refine V.run 20 rfl ?_
  refine V.cv rfl (m_wrong hB hI hr root field) rfl rfl ?_
  rintro _ _ ⟨rfl, rfl⟩
  unfold opNumber
  rcases fl_code hI root field with ⟨e, he, h23⟩ | ⟨q, hq⟩
  · rw [he]
    refine V.brT rfl rfl (by rcases h23 with rfl | rfl <;> decide) ?_
    refine V.run 20 rfl ?_
    exact V.ri rfl ⟨rfl, a, v, rfl, hr⟩
  · obtain ⟨i, m, hi, rfl, hx, rfl, hjm, hm, hf, hs, hN, hj⟩ := fl_ok hB hI hq
    rw [hq]
    refine V.brF rfl rfl (fun h => h i0_eq0) ?_
    refine V.run 20 rfl ?_
    refine V.ialE rfl rfl rfl hi (by omega) ((hr.2.2.2.2.1 i hi).trans hx) ?_
    refine V.run 20 rfl ?_
    rw [nI_add, nI_add]
    refine V.ialE rfl rfl rfl (show q.1 + 1 + q.2 < 512 by omega) (by omega) (hr.2.2.1 _ (by omega)) ?_
    refine V.br rfl rfl (fun h => ?_) (fun h => ?_)
    · refine V.run 20 rfl ?_
      refine V.ialE rfl rfl rfl hi (by omega) ((hr.2.2.2.2.1 i hi).trans hx) ?_
      refine V.run 20 rfl ?_
      rw [nI_add, nI_add]
      refine V.ialE rfl rfl rfl (show q.1 + 1 + q.2 < 512 by omega) (by omega) (hr.2.2.2.1 _ (by omega)) ?_
      exact V.ri rfl ⟨by dsimp only; rw [if_pos h], a, v, rfl, hr⟩
    · refine V.run 20 rfl ?_
      exact V.ri rfl ⟨by dsimp only; rw [if_neg h], a, v, rfl, hr⟩
theorem m_load (hB : B ≤ 16) {n : Nat} {s : AS} (hI : Inv B n s) (hr : RepM B a v s) (root frm field : Int32) : Tot none kX5_load [.ref 19, .int root, .int frm, .int field] (wM cc B a v) (rM cc B (opLoad s root frm field)) := by
  refine eX5_load ?_
  refine V.run 20 rfl ?_
  refine V.puti (w' := wM cc B a (uV v 0 (nI 0))) rfl rfl rfl ?_
  have hr : RepM B a (uV v 0 (nI 0)) s := hr
  generalize uV v 0 (nI 0) = v at hr ⊢
  refine V.run 20 rfl ?_
  refine V.cv rfl (m_wrong hB hI hr frm field) rfl rfl ?_
  rintro _ _ ⟨rfl, rfl⟩
  unfold opLoad
  refine V.run 20 rfl ?_
  rcases ixN_or (n := 16) (by omega) root with ⟨hbad, e⟩ | ⟨t, ht, rfl, e⟩
  · rw [e]
    refine V.cs rfl (m_isRoot0 hbad) rfl ?_
    rintro _ _ ⟨rfl, rfl⟩
    refine V.brF rfl rfl (fun h => h i0_eq0) ?_
    refine V.run 20 rfl ?_
    exact V.ri rfl ⟨rfl, a, v, rfl, hr⟩
  · rw [e]
    refine V.cs rfl (m_isRoot1 ht) rfl ?_
    rintro _ _ ⟨rfl, rfl⟩
    refine V.brT rfl rfl i1_ne0 ?_
    refine V.run 20 rfl ?_
    rcases fl_code hI frm field with ⟨e2, he, h23⟩ | ⟨q, hq⟩
    · rw [he]
      refine V.brF rfl rfl (by rcases h23 with rfl | rfl <;> decide) ?_
      refine V.run 20 rfl ?_
      exact V.ri rfl ⟨rfl, a, v, rfl, hr⟩
    · obtain ⟨i, m, hi, rfl, hx, rfl, hjm, hm, hf, hs, hN, hj⟩ := fl_ok hB hI hq
      rw [hq]
      refine V.brT rfl rfl i0_eq0 ?_
      refine V.run 20 rfl ?_
      refine V.ialE rfl rfl rfl hi (by omega) ((hr.2.2.2.2.1 i hi).trans hx) ?_
      refine V.run 20 rfl ?_
      rw [nI_add, nI_add]
      refine V.ialE rfl rfl rfl (show q.1 + 1 + q.2 < 512 by omega) (by omega) (hr.2.2.1 _ (by omega)) ?_
      dsimp only
      by_cases h0 : sD s (q.1 + 1 + q.2) = 0
      · rw [if_pos h0]
        refine V.brF rfl rfl (fun h => h h0) ?_
        refine V.run 20 rfl ?_
        exact V.ri rfl ⟨rfl, a, v, rfl, hr⟩
      · rw [if_neg h0]
        obtain ⟨y, hy, hys⟩ : ∃ y, sV s (q.1 + 1 + q.2) = nI y ∧ safe B s y := by
          obtain ⟨-, -, m', hm', hf', -, hj'⟩ := hI.2.1 q.1 hs
          have : m' = m := nI_inj (by omega) (by omega) (hf'.symm.trans hf)
          subst this
          rcases hj' q.2 hjm with h | ⟨-, h⟩
          · exact absurd h h0
          · exact h
        have hyN := hys.1
        refine V.brT rfl rfl h0 ?_
        refine V.run 20 rfl ?_
        refine V.ialE rfl rfl rfl (show q.1 + 1 + q.2 < 512 by omega) (by omega) (hr.2.2.2.1 _ (by omega)) ?_
        refine V.iast (w' := wM cc B (uA a 8 t (sV s (q.1 + 1 + q.2))) v) rfl rfl rfl ht (by omega) rfl ?_
        refine V.run 20 rfl ?_
        refine V.ialE rfl rfl rfl ht (by omega) ((show upd (a 8) t _ t = _ from upd_s).trans hy) ?_
        refine V.ialE rfl rfl rfl (show y < 512 by omega) (by omega) (hr.1.1 y hyN) ?_
        exact V.ri rfl ⟨by unfold nmO; rw [hy, if_neg (nI_m1 (by omega)), nI_clamp (by omega)], _, _, rfl, hr.upR t _⟩
theorem m_nameOf (hB : B ≤ 16) {s : AS} {z : Int32} (hz : z = -1 ∨ ∃ x, z = nI x ∧ safe B s x) (hn : ∀ w, w < 32 * B → a 2 w = (sK s).1 w) : Tot none kX5_nameOf [.ref 19, .int z] (wM cc B a v) (rI (nmO s z) (wM cc B a v)) := by
  refine eX5_nameOf ?_
  refine V.run 20 rfl ?_
  unfold nmO
  rcases hz with rfl | ⟨x, rfl, hs⟩
  · refine V.brF rfl rfl (fun h => h rfl) ?_
    refine V.run 20 rfl ?_
    exact V.ri rfl ⟨by rw [if_pos rfl], rfl⟩
  · have hx := hs.1
    refine V.brT rfl rfl (nI_m1 (by omega)) ?_
    refine V.run 20 rfl ?_
    refine V.ialE rfl rfl rfl (show x < 512 by omega) (by omega) (hn x hx) ?_
    exact V.ri rfl ⟨by rw [if_neg (nI_m1 (by omega)), nI_clamp (by omega)], rfl⟩
theorem m_copy (hB : B ≤ 16) {n : Nat} {s : AS} (hI : Inv B n s) (hr : RepM B a v s) (root frm : Int32) : Tot none kX5_copy [.ref 19, .int root, .int frm] (wM cc B a v) (rM cc B (opCopy s root frm)) := by
  refine eX5_copy ?_
  refine V.run 20 rfl ?_
  refine V.puti (w' := wM cc B a (uV v 0 (nI 0))) rfl rfl rfl ?_
  have hr : RepM B a (uV v 0 (nI 0)) s := hr
  generalize uV v 0 (nI 0) = v at hr ⊢
  refine V.run 20 rfl ?_
  unfold opCopy
  rcases ixN_or (n := 16) (by omega) root with ⟨hbad, e⟩ | ⟨i, hi, rfl, e⟩
  · rw [e]
    refine V.cs rfl (m_isRoot0 hbad) rfl ?_
    rintro _ _ ⟨rfl, rfl⟩
    refine V.brT rfl rfl i0_eq0 ?_
    refine V.run 20 rfl ?_
    exact V.ri rfl ⟨rfl, a, v, rfl, hr⟩
  · rw [e]
    refine V.cs rfl (m_isRoot1 hi) rfl ?_
    rintro _ _ ⟨rfl, rfl⟩
    refine V.brF rfl rfl i1_ne0 ?_
    refine V.run 20 rfl ?_
    rcases ixN_or (n := 16) (by omega) frm with ⟨hbad, e2⟩ | ⟨j, hj, rfl, e2⟩
    · rw [e2]
      refine V.cs rfl (m_isRoot0 hbad) rfl ?_
      rintro _ _ ⟨rfl, rfl⟩
      refine V.brF rfl rfl (fun h => h i0_eq0) ?_
      refine V.run 20 rfl ?_
      exact V.ri rfl ⟨rfl, a, v, rfl, hr⟩
    · rw [e2]
      refine V.cs rfl (m_isRoot1 hj) rfl ?_
      rintro _ _ ⟨rfl, rfl⟩
      refine V.brT rfl rfl i1_ne0 ?_
      refine V.run 20 rfl ?_
      refine V.ialE rfl rfl rfl hj (by omega) (hr.2.2.2.2.1 j hj) ?_
      refine V.iast (w' := wM cc B (uA a 8 i (sR s j)) v) rfl rfl rfl hi (by omega) rfl ?_
      refine V.run 20 rfl ?_
      refine V.ialE rfl rfl rfl hi (by omega) (show upd (a 8) i _ i = _ from upd_s) ?_
      refine V.cv rfl (m_nameOf hB (hI.2.2.1 j hj) (by exact hr.1.1)) rfl rfl ?_
      rintro _ _ ⟨rfl, rfl⟩
      exact V.ri rfl ⟨rfl, _, _, rfl, hr.upR i _⟩
theorem m_drop (hB : B ≤ 16) {n : Nat} {s : AS} (hI : Inv B n s) (hr : RepM B a v s) (root : Int32) : Tot none kX5_drop [.ref 19, .int root] (wM cc B a v) (rM cc B (opDrop s root)) := by
  refine eX5_drop ?_
  refine V.run 20 rfl ?_
  refine V.puti (w' := wM cc B a (uV v 0 (nI 0))) rfl rfl rfl ?_
  have hr : RepM B a (uV v 0 (nI 0)) s := hr
  generalize uV v 0 (nI 0) = v at hr ⊢
  refine V.run 20 rfl ?_
  unfold opDrop
  rcases ixN_or (n := 16) (by omega) root with ⟨hbad, e⟩ | ⟨i, hi, rfl, e⟩
  · rw [e]
    refine V.cs rfl (m_isRoot0 hbad) rfl ?_
    rintro _ _ ⟨rfl, rfl⟩
    refine V.brF rfl rfl (fun h => h i0_eq0) ?_
    refine V.run 20 rfl ?_
    exact V.ri rfl ⟨rfl, a, v, rfl, hr⟩
  · rw [e]
    refine V.cs rfl (m_isRoot1 hi) rfl ?_
    rintro _ _ ⟨rfl, rfl⟩
    refine V.brT rfl rfl i1_ne0 ?_
    refine V.run 20 rfl ?_
    refine V.ialE rfl rfl rfl hi (by omega) (hr.2.2.2.2.1 i hi) ?_
    refine V.run 20 rfl ?_
    refine V.br rfl rfl (fun h => ?_) (fun h => ?_)
    · refine V.run 20 rfl ?_
      refine V.iast (w' := wM cc B (uA a 8 i (-1)) v) rfl rfl rfl hi (by omega) rfl ?_
      refine V.run 20 rfl ?_
      exact V.ri rfl ⟨by dsimp only; rw [if_neg h], _, _, rfl, hr.upR i _⟩
    · refine V.run 20 rfl ?_
      refine V.iast (w' := wM cc B (uA a 8 i (-1)) v) rfl rfl rfl hi (by omega) rfl ?_
      refine V.run 20 rfl ?_
      exact V.ri rfl ⟨by dsimp only; rw [if_pos (Decidable.not_not.mp h)], _, _, rfl, hr.upR i _⟩
theorem m_watch (hB : B ≤ 16) {n : Nat} {s : AS} (hI : Inv B n s) (hr : RepM B a v s) (root on : Int32) (hon : on = 0 ∨ on = 1) : Tot none kX5_watch [.ref 19, .int root, .int on] (wM cc B a v) (rM cc B (opWatch s root on)) := by
  refine eX5_watch ?_
  refine V.run 20 rfl ?_
  refine V.puti (w' := wM cc B a (uV v 0 (nI 0))) rfl rfl rfl ?_
  have hr : RepM B a (uV v 0 (nI 0)) s := hr
  generalize uV v 0 (nI 0) = v at hr ⊢
  refine V.run 20 rfl ?_
  unfold opWatch
  rcases ixN_or (n := 16) (by omega) root with ⟨hbad, e⟩ | ⟨i, hi, rfl, e⟩
  · rw [e]
    refine V.cs rfl (m_isRoot0 hbad) rfl ?_
    rintro _ _ ⟨rfl, rfl⟩
    refine V.brF rfl rfl (fun h => h i0_eq0) ?_
    refine V.run 20 rfl ?_
    exact V.ri rfl ⟨rfl, a, v, rfl, hr⟩
  · rw [e]
    dsimp only
    refine V.cs rfl (m_isRoot1 hi) rfl ?_
    rintro _ _ ⟨rfl, rfl⟩
    refine V.brT rfl rfl i1_ne0 ?_
    refine V.run 20 rfl ?_
    have h8 := hr.2.2.2.2.1 i hi
    rcases hI.2.2.1 i hi with h0 | ⟨x, hx, hs⟩
    · rw [if_pos h0]
      refine V.ialE rfl rfl rfl hi (by omega) (h8.trans h0) ?_
      refine V.run 20 rfl ?_
      refine V.brF rfl rfl (fun h => h rfl) ?_
      refine V.run 20 rfl ?_
      exact V.ri rfl ⟨rfl, a, v, rfl, hr⟩
    · have hxN := hs.1
      have h01 := hI.2.2.2.2.1.1 x hxN
      rw [hx, if_neg (nI_m1 (by omega)), nI_clamp (by omega)]
      refine V.ialE rfl rfl rfl hi (by omega) (h8.trans hx) ?_
      refine V.run 20 rfl ?_
      refine V.brT rfl rfl (nI_m1 (by omega)) ?_
      refine V.run 20 rfl ?_
      refine V.ialE rfl rfl rfl hi (by omega) (h8.trans hx) ?_
      refine V.zalE rfl rfl rfl (show x < 512 by omega) (by omega) (hr.1.2.1 x hxN) ?_
      have fin : ∀ y : Int32, (sK s).2.1 x = y → V none 111 (rM cc B ((sK s).2.1 x, (((sK s).1, upd (sK s).2.1 x on, (sK s).2.2), s.2))) (0, 0) 47 [(0, .ref 19), (1, .int (nI i)), (2, .int on)] [.int y] (wM cc B a v) := by
        intro y hy
        refine V.run 20 rfl ?_
        refine V.ialE rfl rfl rfl hi (by omega) (h8.trans hx) ?_
        refine V.run 20 rfl ?_
        refine V.zast (w' := wM cc B (uA a 5 x on) v) rfl rfl rfl (show x < 512 by omega) (by omega) hon rfl ?_
        refine V.run 20 rfl ?_
        obtain ⟨⟨k1, k2, k3, k4, k5⟩, h2, h3, h4, h5, h6, h7, h8, h9⟩ := hr
        refine V.ri rfl ⟨by rw [hy], _, _, rfl, ⟨k1, fun w hw => ?_, k3, k4, k5⟩, h2, h3, h4, h5, h6, h7, h8, h9⟩
        show upd (a 5) x on w = upd (sK s).2.1 x on w
        by_cases q : w = x
        · subst q; rw [upd_s, upd_s]
        · rw [upd_n q, upd_n q]; exact k2 w hw
      rcases h01 with h | h
      · refine V.brT rfl rfl h ?_
        refine V.run 1 rfl ?_
        exact fin (nI 0) h
      · refine V.brF rfl rfl (by rw [h]; decide) ?_
        refine V.run 2 rfl ?_
        exact fin (nI 1) h
theorem m_next (hB : B ≤ 16) {n : Nat} {s : AS} (hI : Inv B n s) (hr : RepM B a v s) (root : Int32) : Tot none kX5_next [.ref 19, .int root] (wM cc B a v) (rM cc B (opNext s root)) := by
  refine eX5_next ?_
  refine V.run 20 rfl ?_
  refine V.puti (w' := wM cc B a (uV v 0 (nI 0))) rfl rfl rfl ?_
  have hr : RepM B a (uV v 0 (nI 0)) s := hr
  generalize uV v 0 (nI 0) = v at hr ⊢
  refine V.run 20 rfl ?_
  unfold opNext
  rcases ixN_or (n := 16) (by omega) root with ⟨hbad, e⟩ | ⟨i, hi, rfl, e⟩
  · rw [e]
    refine V.cs rfl (m_isRoot0 hbad) rfl ?_
    rintro _ _ ⟨rfl, rfl⟩
    refine V.brF rfl rfl (fun h => h i0_eq0) ?_
    refine V.run 20 rfl ?_
    exact V.ri rfl ⟨rfl, a, v, rfl, hr⟩
  · rw [e]
    refine V.cs rfl (m_isRoot1 hi) rfl ?_
    rintro _ _ ⟨rfl, rfl⟩
    refine V.brT rfl rfl i1_ne0 ?_
    refine V.run 20 rfl ?_
    have hq := hr.2.2.2.2.2.1
    have hqG := hI.2.2.2.1
    have hql := hqG.len hI.2.1
    cases hQ : sQ s with
    | nil =>
      rw [hQ] at hq
      refine V.brF rfl rfl (fun h => h (by rw [hq.1]; rfl)) ?_
      refine V.run 20 rfl ?_
      exact V.ri rfl ⟨rfl, a, v, rfl, hr⟩
    | cons x q =>
      rw [hQ] at hq hqG hql
      rw [List.length_cons] at hql
      have hxs := hqG.2 x List.mem_cons_self
      have hxN := hxs.1
      have hv4 : v 4 = nI (q.length + 1) := hq.1
      refine V.brT rfl rfl (by rw [hv4]; exact nI_ne0 (by omega) (by omega)) ?_
      refine V.run 20 rfl ?_
      refine V.ialE (j := 0) rfl rfl rfl (show 0 < 512 by omega) (by omega) (hq.2 0 x rfl) ?_
      refine V.iast (w' := wM cc B (uA a 8 i (nI x)) v) rfl rfl rfl hi (by omega) rfl ?_
      refine V.run 20 rfl ?_
      refine V.puti (w' := wM cc B (uA a 8 i (nI x)) (uV v 4 (v 4 - nI 1))) rfl rfl rfl ?_
      rw [hv4, pk_sub (by omega), Nat.add_sub_cancel]
      refine V.run 20 rfl ?_
      have loop : ∀ (m j : Nat) (f : Nat → Int32), j + m = q.length → (∀ k y, (x :: q)[k + 1]? = some y → k < j → f k = nI y) → (∀ k, j ≤ k → f k = a 9 k) →
          V none 112 (rM cc B ((sK s).1 x, (sK s, sF s, sD s, sV s, upd (sR s) i (nI x), q, sM s, sN s, sB s))) (0, 0) 53 [(0, .ref 19), (1, .int (nI i)), (2, .int (nI j))] [.int (nI q.length), .int (nI j)] (wM cc B (setA (uA a 8 i (nI x)) 9 f) (uV v 4 (nI q.length))) := by
        intro m
        induction m with
        | zero =>
          intro j f hj h1 h2
          refine V.brT rfl rfl (nI_le (by omega) (by omega)) ?_
          refine V.run 20 rfl ?_
          refine V.ialE rfl rfl rfl hi (by omega) (show upd (a 8) i _ i = _ from upd_s) ?_
          refine V.ialE rfl rfl rfl (show x < 512 by omega) (by omega) (by exact hr.1.1 x hxN) ?_
          obtain ⟨k1, k2, k3, k4, k5, k6, k7, k8, k9⟩ := hr
          refine V.ri rfl ⟨rfl, _, _, rfl, k1, k2, k3, k4, fun w hw => ?_, ⟨rfl, fun k y hk => ?_⟩, k7, k8, k9⟩
          · show upd (a 8) i (nI x) w = upd (sR s) i (nI x) w
            by_cases q : w = i
            · subst q; rw [upd_s, upd_s]
            · rw [upd_n q, upd_n q]; exact k5 w hw
          · have hk : q[k]? = some y := hk
            have := (List.getElem?_eq_some_iff.mp hk).1
            exact h1 k y hk (by omega)
        | succ m ih =>
          intro j f hj h1 h2
          obtain ⟨y, hy⟩ : ∃ y, q[j]? = some y := ⟨_, List.getElem?_eq_getElem (by omega)⟩
          refine V.brF rfl rfl (nI_ge (show j < q.length by omega) (by omega)) ?_
          refine V.run 20 rfl ?_
          rw [nI_add]
          refine V.ialE (j := j + 1) rfl rfl rfl (show j + 1 < 512 by omega) (by omega) ((h2 (j + 1) (by omega)).trans (hq.2 (j + 1) y hy)) ?_
          refine V.iast (w' := wM cc B (setA (uA a 8 i (nI x)) 9 (upd f j (nI y))) (uV v 4 (nI q.length))) rfl rfl rfl (show j < 512 by omega) (by omega) rfl ?_
          refine V.run 20 rfl ?_
          rw [nI_add]
          refine ih (j + 1) _ (by omega) (fun k z hk hkj => ?_) (fun k hk => ?_)
          · by_cases e : k = j
            · subst e
              rw [upd_s]
              rw [List.getElem?_cons_succ, hy] at hk
              cases hk; rfl
            · rw [upd_n e]; exact h1 k z hk (by omega)
          · rw [upd_n (by omega)]; exact h2 k (by omega)
      exact loop q.length 0 (a 9) (by omega) (fun k y _ h => absurd h (Nat.not_lt_zero k)) (fun k _ => rfl)
theorem m_same (hB : B ≤ 16) {n : Nat} {s : AS} (hI : Inv B n s) (hr : RepM B a v s) (one other : Int32) : Tot none kX5_same [.ref 19, .int one, .int other] (wM cc B a v) (rM cc B (opSame s one other, s)) := by
  refine eX5_same ?_
  refine V.run 20 rfl ?_
  refine V.puti (w' := wM cc B a (uV v 0 (nI 0))) rfl rfl rfl ?_
  have hr : RepM B a (uV v 0 (nI 0)) s := hr
  generalize uV v 0 (nI 0) = v at hr ⊢
  refine V.run 20 rfl ?_
  unfold opSame
  rcases ixN_or (n := 16) (by omega) one with ⟨hbad, e⟩ | ⟨i, hi, rfl, e⟩
  · rw [e]
    refine V.cs rfl (m_isRoot0 hbad) rfl ?_
    rintro _ _ ⟨rfl, rfl⟩
    refine V.brT rfl rfl i0_eq0 ?_
    refine V.run 20 rfl ?_
    exact V.ri rfl ⟨rfl, a, v, rfl, hr⟩
  · rw [e]
    refine V.cs rfl (m_isRoot1 hi) rfl ?_
    rintro _ _ ⟨rfl, rfl⟩
    refine V.brF rfl rfl i1_ne0 ?_
    refine V.run 20 rfl ?_
    rcases ixN_or (n := 16) (by omega) other with ⟨hbad, e2⟩ | ⟨j, hj, rfl, e2⟩
    · rw [e2]
      refine V.cs rfl (m_isRoot0 hbad) rfl ?_
      rintro _ _ ⟨rfl, rfl⟩
      refine V.brF rfl rfl (fun h => h i0_eq0) ?_
      refine V.run 20 rfl ?_
      exact V.ri rfl ⟨rfl, a, v, rfl, hr⟩
    · rw [e2]
      refine V.cs rfl (m_isRoot1 hj) rfl ?_
      rintro _ _ ⟨rfl, rfl⟩
      refine V.brT rfl rfl i1_ne0 ?_
      refine V.run 20 rfl ?_
      refine V.ialE rfl rfl rfl hi (by omega) (hr.2.2.2.2.1 i hi) ?_
      refine V.run 20 rfl ?_
      refine V.ialE rfl rfl rfl hj (by omega) (hr.2.2.2.2.1 j hj) ?_
      refine V.br rfl rfl (fun h => ?_) (fun h => ?_)
      · refine V.run 20 rfl ?_
        exact V.ri rfl ⟨by dsimp only; rw [if_neg h], a, v, rfl, hr⟩
      · refine V.run 20 rfl ?_
        exact V.ri rfl ⟨by dsimp only; rw [if_pos (Decidable.not_not.mp h)], a, v, rfl, hr⟩
end MP
