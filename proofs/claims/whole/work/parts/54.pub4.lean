theorem cw_mask : ∀ c, c < 4 → ∀ w, w < 512 → nI w &&& -(nI (cwd c)) = nI (w - w % cwd c) := by decide +kernel
theorem cw_32 : ∀ c, c < 4 → 32 / cwd c = cpb c := by decide
section CP4
variable {B : Nat} {a : Nat → Nat → Int32} {v : Nat → Int32} {r : xW}
theorem c_at (hB : B ≤ 16) {n : Nat} {s : AS} (hI : Inv B n s) (hr : RepC B a v s) (word : Int32) : Tot none kX4_at [.ref 0, .int word] (wC B a v r) (rI (opAt B s word) (wC B a v r)) := by
  refine eX4_at ?_
  unfold opAt
  rcases ixN_or (n := 32 * B) (by omega) word with ⟨hbad, e⟩ | ⟨w, hw, rfl, e⟩
  · rw [e]
    refine V.run 20 rfl ?_
    refine V.br rfl rfl (fun h => ?_) (fun h => ?_)
    · refine V.run 20 rfl ?_
      exact V.ri rfl ⟨rfl, rfl⟩
    · refine V.run 20 rfl ?_
      refine V.cv rfl c_words rfl rfl ?_
      rintro _ _ ⟨rfl, rfl⟩
      refine V.brF rfl rfl (Int32.not_lt.mpr (hbad.resolve_left h)) ?_
      refine V.run 20 rfl ?_
      exact V.ri rfl ⟨rfl, rfl⟩
  · rw [e]
    dsimp only
    refine V.run 20 rfl ?_
    refine V.brF rfl rfl (nI_pos (by omega)) ?_
    refine V.run 20 rfl ?_
    refine V.cv rfl c_words rfl rfl ?_
    rintro _ _ ⟨rfl, rfl⟩
    refine V.brT rfl rfl (nI_lt hw (by omega)) ?_
    refine V.run 20 rfl ?_
    have hb : w / 32 < B := by omega
    rcases hI.1.1 (w / 32) hb with hf | ⟨c, hc, hcl⟩
    · rw [if_pos hf]
      refine V.cv rfl (Qj := rI (-1) (wC B a v r)) (eX0_cellAround ?_) rfl rfl ?_
      · refine V.run 20 rfl ?_
        refine V.idiv rfl (by decide) ?_
        rw [pk_div (by omega) (by omega) (by omega)]
        refine V.cv rfl (c_classOfE hB hb ((hr.1.2.2.1 _ hb).trans hf)) rfl rfl ?_
        rintro _ _ ⟨rfl, rfl⟩
        refine V.run 20 rfl ?_
        refine V.brF rfl rfl (fun h => h rfl) ?_
        refine V.run 20 rfl ?_
        exact V.ri rfl ⟨rfl, rfl⟩
      · rintro _ _ ⟨rfl, rfl⟩
        refine V.cv rfl c_nameAt0 rfl rfl ?_
        rintro _ _ ⟨rfl, rfl⟩
        exact V.ri rfl ⟨rfl, rfl⟩
    · have ej : cwJ (sK s).2.2.1 (w / 32) = cwd c := by unfold cwJ; rw [hcl, nI_clamp (by omega)]
      rw [if_neg (by rw [hcl]; exact nI_m1 (by omega)), ej]
      refine V.cv rfl (Qj := rI (nI (w - w % cwd c)) (wC B a v r)) (eX0_cellAround ?_) rfl rfl ?_
      · refine V.run 20 rfl ?_
        refine V.idiv rfl (by decide) ?_
        rw [pk_div (by omega) (by omega) (by omega)]
        refine V.cv rfl (c_classOfE hB hb ((hr.1.2.2.1 _ hb).trans hcl)) rfl rfl ?_
        rintro _ _ ⟨rfl, rfl⟩
        refine V.run 20 rfl ?_
        refine V.brT rfl rfl (nI_m1 (by omega)) ?_
        refine V.run 20 rfl ?_
        refine V.cs rfl (c_cellWords hc) rfl ?_
        rintro _ _ ⟨rfl, rfl⟩
        refine V.run 20 rfl ?_
        rw [cw_mask c hc w (by omega)]
        exact V.ri rfl ⟨rfl, rfl⟩
      · rintro _ _ ⟨rfl, rfl⟩
        have hx : w - w % cwd c < 32 * B := by omega
        refine V.cv rfl (c_nameAtE hB hx (hr.1.1 _ hx)) rfl rfl ?_
        rintro _ _ ⟨rfl, rfl⟩
        exact V.ri rfl ⟨rfl, rfl⟩
theorem c_block (hB : B ≤ 16) {n : Nat} {s : AS} (hI : Inv B n s) (hr : RepC B a v s) (bb what : Int32) : Tot none kX4_block [.ref 0, .int bb, .int what] (wC B a v r) (rI (opBlock B s bb what) (wC B a v r)) := by
  refine eX4_block ?_
  refine V.run 20 rfl ?_
  unfold opBlock
  rcases ixN_or (n := B) (by omega) bb with ⟨hbad, e⟩ | ⟨b, hb, rfl, e⟩
  · rw [e]
    refine V.cv rfl (c_has0 hbad) rfl rfl ?_
    rintro _ _ ⟨rfl, rfl⟩
    refine V.brF rfl rfl (fun h => h i0_eq0) ?_
    refine V.run 20 rfl ?_
    exact V.ri rfl ⟨rfl, rfl⟩
  · rw [e]
    refine V.cv rfl (c_has hB hb) rfl rfl ?_
    rintro _ _ ⟨rfl, rfl⟩
    refine V.brT rfl rfl i1_ne0 ?_
    refine V.run 20 rfl ?_
    rcases ixN_or (n := 4) (by omega) what with ⟨hbad, e2⟩ | ⟨k, hk, rfl, e2⟩
    · rw [e2]
      refine V.tableOut (tgt := 83) rfl (by
        rcases hbad with h | h
        · left; rw [Int32.lt_iff_toInt_lt] at h; simpa using h
        · right; rw [Int32.le_iff_toInt_le, nI_toInt (by omega)] at h; omega) rfl ?_
      refine V.run 20 rfl ?_
      exact V.ri rfl ⟨rfl, rfl⟩
    · rw [e2]
      dsimp only
      have hu := hI.1.2.1 b hb
      have hu01 : (sK s).2.2.2.1 b = 0 ∨ (sK s).2.2.2.1 b = 1 := hu.imp id And.left
      rcases (show k = 0 ∨ k = 1 ∨ k = 2 ∨ k = 3 by omega) with rfl | rfl | rfl | rfl
      · refine V.tableIn (tgt := 44) rfl (by decide) (by decide) rfl rfl ?_
        refine V.run 20 rfl ?_
        refine V.cv rfl (c_classOfE hB hb (hr.1.2.2.1 b hb)) rfl rfl ?_
        rintro _ _ ⟨rfl, rfl⟩
        exact V.ri rfl ⟨rfl, rfl⟩
      · refine V.tableIn (tgt := 53) rfl (by decide) (by decide) rfl rfl ?_
        refine V.run 20 rfl ?_
        refine V.cv rfl (c_isUnsweptE hB hb (hr.1.2.2.2.1 b hb) hu01) rfl rfl ?_
        rintro _ _ ⟨rfl, rfl⟩
        refine V.cs rfl (c_oneIfz hu01) rfl ?_
        rintro _ _ ⟨rfl, rfl⟩
        exact V.ri rfl ⟨rfl, rfl⟩
      · refine V.tableIn (tgt := 65) rfl (by decide) (by decide) rfl rfl ?_
        refine V.run 20 rfl ?_
        refine V.cv rfl (c_objectsIn hB hI.1 hr.1 hb) rfl rfl ?_
        rintro _ _ ⟨rfl, rfl⟩
        exact V.ri rfl ⟨rfl, rfl⟩
      · refine V.tableIn (tgt := 74) rfl (by decide) (by decide) rfl rfl ?_
        refine V.run 20 rfl ?_
        rcases hI.1.1 b hb with hf | ⟨c, hc, hcl⟩
        · refine V.cv rfl (c_emptyCellsIn0 hB hI.1 hr.1 hb hf) rfl rfl ?_
          rintro _ _ ⟨rfl, rfl⟩
          exact V.ri rfl ⟨by rw [if_pos hf]; rfl, rfl⟩
        · refine V.cv rfl (c_emptyCellsIn hB hI.1 hr.1 hb hc hcl) rfl rfl ?_
          rintro _ _ ⟨rfl, rfl⟩
          have ej : cwJ (sK s).2.2.1 b = cwd c := by unfold cwJ; rw [hcl, nI_clamp (by omega)]
          exact V.ri rfl ⟨by rw [if_neg (show ¬ (sK s).2.2.1 b = -1 by rw [hcl]; exact nI_m1 (by omega)), ej, cw_32 c hc]; rfl, rfl⟩
theorem c_count (hB : B ≤ 16) {n : Nat} {s : AS} (hI : Inv B n s) (hr : RepC B a v s) (what : Int32) : Tot none kX4_count [.ref 0, .int what] (wC B a v r) (rC B r (opCount B s what, s)) := by
  have hp := hpC hI hr
  obtain ⟨h1, h2, h3, h4, h5, h6, h7, h8, h9⟩ := id hr
  refine eX4_count ?_
  refine V.run 20 rfl ?_
  unfold opCount
  rcases ixN_or (n := 10) (by omega) what with ⟨hbad, e⟩ | ⟨k, hk, rfl, e⟩
  · rw [e]
    refine V.tableOut (tgt := 127) rfl (by
      rcases hbad with h | h
      · left; rw [Int32.lt_iff_toInt_lt] at h; simpa using h
      · right; rw [Int32.le_iff_toInt_le, nI_toInt (by omega)] at h; omega) rfl ?_
    refine V.run 20 rfl ?_
    exact V.ri rfl ⟨rfl, a, v, rfl, hr⟩
  · rw [e]
    dsimp only
    rcases (show k = 0 ∨ k = 1 ∨ k = 2 ∨ k = 3 ∨ k = 4 ∨ k = 5 ∨ k = 6 ∨ k = 7 ∨ k = 8 ∨ k = 9 by omega) with rfl | rfl | rfl | rfl | rfl | rfl | rfl | rfl | rfl | rfl
    · refine V.tableIn (tgt := 56) rfl (by decide) (by decide) rfl rfl ?_
      refine V.run 20 rfl ?_
      refine V.cv rfl (c_objects hB hI.1 h1) rfl rfl ?_
      rintro _ _ ⟨rfl, rfl⟩
      exact V.ri rfl ⟨rfl, a, v, rfl, hr⟩
    · refine V.tableIn (tgt := 64) rfl (by decide) (by decide) rfl rfl ?_
      refine V.run 20 rfl ?_
      refine V.cv rfl (c_usedWords hB hI.1 h1) rfl rfl ?_
      rintro _ _ ⟨rfl, rfl⟩
      exact V.ri rfl ⟨rfl, a, v, rfl, hr⟩
    · refine V.tableIn (tgt := 72) rfl (by decide) (by decide) rfl rfl ?_
      refine V.run 20 rfl ?_
      exact V.ri rfl ⟨congrArg (fun z => some (Value.int z)) h7, a, v, rfl, hr⟩
    · refine V.tableIn (tgt := 77) rfl (by decide) (by decide) rfl rfl ?_
      refine V.run 20 rfl ?_
      exact V.ri rfl ⟨congrArg (fun z => some (Value.int z)) h8, a, v, rfl, hr⟩
    · refine V.tableIn (tgt := 82) rfl (by decide) (by decide) rfl rfl ?_
      refine V.run 20 rfl ?_
      refine V.cv rfl c_sweepsDone rfl rfl ?_
      rintro _ _ ⟨rfl, rfl⟩
      exact V.ri rfl ⟨congrArg (fun z => some (Value.int z)) h1.2.2.2.2, a, v, rfl, hr⟩
    · refine V.tableIn (tgt := 90) rfl (by decide) (by decide) rfl rfl ?_
      refine V.run 20 rfl ?_
      refine V.cv rfl (c_freeBlocks hB h1) rfl rfl ?_
      rintro _ _ ⟨rfl, rfl⟩
      exact V.ri rfl ⟨rfl, a, v, rfl, hr⟩
    · refine V.tableIn (tgt := 98) rfl (by decide) (by decide) rfl rfl ?_
      refine V.run 20 rfl ?_
      refine V.cv rfl (c_unsweptBlocks hB hI.1 h1) rfl rfl ?_
      rintro _ _ ⟨rfl, rfl⟩
      exact V.ri rfl ⟨rfl, a, v, rfl, hr⟩
    · refine V.tableIn (tgt := 106) rfl (by decide) (by decide) rfl rfl ?_
      refine V.run 20 rfl ?_
      refine V.cv rfl (c_lsizeE h6.1) rfl rfl ?_
      rintro _ _ ⟨rfl, rfl⟩
      exact V.ri rfl ⟨rfl, a, v, rfl, hr⟩
    · refine V.tableIn (tgt := 114) rfl (by decide) (by decide) rfl rfl ?_
      refine V.run 20 rfl ?_
      refine V.cv rfl (c_watchedObjects hB h1.2.1 hI.2.2.2.2.1.1) rfl rfl ?_
      rintro _ _ ⟨rfl, rfl⟩
      exact V.ri rfl ⟨rfl, a, v, rfl, hr⟩
    · have hrt : rtOK (a 12) (safe B s) := fun i hi => by rw [h5 i hi]; exact hI.2.2.1 i hi
      have hag : agr (32 * B) (safe B s) (a 1) (a 3) (a 4) (sF s) (sD s) (sV s) := ⟨fun x hx => h2 x hx.1 hx.2.1, h3, h4⟩
      have hwt : wtOK (32 * B) (a 0) (a 2) (safe B s) := by
        obtain ⟨w1, w2, w3⟩ := hI.2.2.2.2.1
        refine ⟨fun w hw => by rw [h1.2.1 w hw]; exact w1 w hw, fun w hw q => w2 w hw (by rw [← h1.2.1 w hw]; exact q), fun x y hx hy q1 q2 q3 => w3 x y hx hy (by rw [← h1.2.1 x hx]; exact q1) (by rw [← h1.2.1 y hy]; exact q2) (by rw [← h1.1 x hx, ← h1.1 y hy]; exact q3)⟩
      obtain ⟨e1, -⟩ := mrk_congr hB hp hag hrt h5 hI.2.2.2.1.2 h1.1 h1.2.1 hwt
      refine V.tableIn (tgt := 122) rfl (by decide) (by decide) rfl rfl ?_
      refine V.run 20 rfl ?_
      refine V.cv rfl (c_heldObjects hB hp hrt h6 hI.2.2.2.1) rfl rfl ?_
      rintro _ _ ⟨rfl, f, g, n1, n2, rfl⟩
      exact V.ri rfl ⟨congrArg (fun z : List Nat => some (Value.int (nI z.length))) e1, _, _, rfl, h1, h2, h3, h4, h5, h6, h7, h8, h9⟩
theorem c_fieldTerm (hB : B ≤ 16) {G : Nat → Prop} (hp : hpOK (32 * B) (a 1) (a 3) (a 4) G) {L : List Nat} (hW : Wk (32 * B) L (a 7) (a 8) (v 4)) (hG : Wg B G L) {x j m : Nat} (hx : G x) (hf : a 1 x = nI m) (hm : m ≤ 15) (hj : j < m) (hcl : ∀ y ∈ tgs (a 1) (a 3) (a 4) x, y ∈ L) :
    Tot none kX4_fieldTerm [.ref 0, .int (nI x), .int (nI j)] (wC B a v r) (rJ (sTm (a 3) (a 4) L (x + 1 + j)) (wC B a v r)) := by
  obtain ⟨hxN, -, m', hm', hf', hmN, hj'⟩ := hp x hx
  have e : m' = m := nI_inj (by omega) (by omega) (hf'.symm.trans hf)
  subst e
  have hjN : x + 1 + j < 32 * B := by omega
  have hlen := hG.len hp
  refine eX4_fieldTerm ?_
  refine V.run 20 rfl ?_
  refine V.cv rfl (c_valueOf hB hjN) rfl rfl ?_
  rintro _ _ ⟨rfl, rfl⟩
  refine V.run 20 rfl ?_
  unfold sTm
  rcases hj' j hj with h0 | ⟨h12, y, hy, hyG⟩
  · refine V.cv rfl (c_kindOfE hB hjN h0) rfl rfl ?_
    rintro _ _ ⟨rfl, rfl⟩
    refine V.lookup (tgt := 64) rfl (by decide) rfl rfl ?_
    refine V.run 20 rfl ?_
    exact V.rl rfl ⟨by rw [if_pos h0], rfl⟩
  · rcases h12 with h1 | h2
    · have hyN := (hp y hyG).1
      have hyL : y ∈ L := hcl y (by
        rw [tgs_tgc hf hm]
        unfold tgc
        refine List.mem_filterMap.mpr ⟨j, List.mem_range'_1.mpr ⟨by omega, by omega⟩, ?_⟩
        rw [if_pos h1, hy, nI_clamp (by omega)])
      obtain ⟨i, hi⟩ := List.getElem?_of_mem hyL
      refine V.cv rfl (c_kindOfE hB hjN h1) rfl rfl ?_
      rintro _ _ ⟨rfl, rfl⟩
      refine V.lookup (tgt := 44) rfl (by decide) rfl rfl ?_
      refine V.run 20 rfl ?_
      rw [hy]
      refine V.cv rfl (c_rankOf true hB hyN) rfl rfl ?_
      rintro _ _ ⟨rfl, rfl⟩
      refine V.run 20 rfl ?_
      have er : a (oR true) y = nI i := (hW.2.1 i y hi).2
      rw [if_neg (show ¬ a 3 (x + 1 + j) = 0 by rw [h1]; decide), if_pos h1, nI_clamp (by omega), rkN_get hG.1 hi]
      rw [er]
      exact V.rl rfl ⟨rfl, rfl⟩
    · refine V.cv rfl (c_kindOfE hB hjN h2) rfl rfl ?_
      rintro _ _ ⟨rfl, rfl⟩
      refine V.lookup (tgt := 60) rfl (by decide) rfl rfl ?_
      refine V.run 20 rfl ?_
      exact V.rl rfl ⟨by rw [if_neg (show ¬ a 3 (x + 1 + j) = 0 by rw [h2]; decide), if_neg (show ¬ a 3 (x + 1 + j) = 1 by rw [h2]; decide)], rfl⟩
theorem c_addObject (hB : B ≤ 16) {G : Nat → Prop} (hp : hpOK (32 * B) (a 1) (a 3) (a 4) G) {L : List Nat} (hW : Wk (32 * B) L (a 7) (a 8) (v 4)) (hG : Wg B G L) {x : Nat} (hx : G x) (hcl : ∀ y ∈ tgs (a 1) (a 3) (a 4) x, y ∈ L) (z : Int64) :
    Tot none kX4_addObject [.ref 0, .long z, .int (nI x)] (wC B a v r) (rJ (sOb (a 1) (a 3) (a 4) L x z) (wC B a v r)) := by
  obtain ⟨hxN, -, m, hm, hf, hmN, hj'⟩ := hp x hx
  have loop : ∀ (c j : Nat), j + c = m → V none 83 (rJ (sOb (a 1) (a 3) (a 4) L x z) (wC B a v r)) (0, 0) 28 [(0, .ref 0), (1, .long z), (3, .int (nI x)), (4, .int (nI m)), (5, .long (sFl (fun j => sTm (a 3) (a 4) L (x + 1 + j)) (lN 31 * z + (nI m).toInt64) j)), (7, .int (nI j))] [.int (nI m), .int (nI j)] (wC B a v r) := by
    intro c
    induction c with
    | zero =>
      intro j hj
      have e : j = m := by omega
      subst e
      refine V.brT rfl rfl (nI_le (Nat.le_refl _) (by omega)) ?_
      refine V.run 20 rfl ?_
      exact V.rl rfl ⟨by unfold sOb; rw [hf, nI_clamp (by omega)], rfl⟩
    | succ c ih =>
      intro j hj
      have ih := ih (j + 1) (by omega)
      refine V.brF rfl rfl (nI_ge (show j < m by omega) (by omega)) ?_
      refine V.run 20 rfl ?_
      refine V.cv rfl (c_fieldTerm hB hp hW hG hx hf hm (show j < m by omega) hcl) rfl rfl ?_
      rintro _ _ ⟨rfl, rfl⟩
      refine V.run 20 rfl ?_
      rw [nI_add]
      exact ih
  refine eX4_addObject ?_
  refine V.run 20 rfl ?_
  refine V.cv rfl (c_fieldsOfE hB hxN hf) rfl rfl ?_
  rintro _ _ ⟨rfl, rfl⟩
  refine V.run 20 rfl ?_
  exact loop m 0 (by omega)
end CP4
