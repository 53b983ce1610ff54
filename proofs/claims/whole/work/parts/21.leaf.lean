theorem c_oneIf1 {w : xW} : Tot none kX4_oneIf [.int (nI 1)] w (rI (nI 1) w) := by
  refine eX4_oneIf ?_
  refine V.run 10 rfl ?_
  refine V.brF rfl rfl i1_ne0 ?_
  refine V.run 10 rfl ?_
  exact V.ri rfl ⟨rfl, rfl⟩
theorem c_oneIf0 {w : xW} : Tot none kX4_oneIf [.int (nI 0)] w (rI (nI 0) w) := by
  refine eX4_oneIf ?_
  refine V.run 10 rfl ?_
  refine V.brT rfl rfl i0_eq0 ?_
  refine V.run 10 rfl ?_
  exact V.ri rfl ⟨rfl, rfl⟩
theorem c_oneIfz {w : xW} {x : Int32} (h : x = 0 ∨ x = 1) : Tot none kX4_oneIf [.int x] w (rI x w) := by
  rcases h with rfl | rfl
  · exact c_oneIf0
  · exact c_oneIf1
theorem c_cellWords {w : xW} {c : Nat} (hc : c < 4) : Tot none kX4_cellWords [.int (nI c)] w (rI (nI (cwd c)) w) := by
  refine eX4_cellWords ?_
  refine V.run 10 rfl ?_
  rw [cw_i c hc]
  exact V.ri rfl ⟨rfl, rfl⟩
theorem c_cellsPerBlock {w : xW} {c : Nat} (hc : c < 4) : Tot none kX4_cellsPerBlock [.int (nI c)] w (rI (nI (cpb c)) w) := by
  refine eX4_cellsPerBlock ?_
  refine V.run 10 rfl ?_
  rw [cp_i c hc]
  exact V.ri rfl ⟨rfl, rfl⟩
theorem c_isRoot1 {w : xW} {x : Nat} (hx : x < 16) : Tot none kX4_isRoot [.int (nI x)] w (rI (nI 1) w) := by
  refine eX4_isRoot ?_
  refine V.run 10 rfl ?_
  refine V.brF rfl rfl (nI_pos (by omega)) ?_
  refine V.run 10 rfl ?_
  refine V.brF rfl rfl (nI_ge hx (by omega)) ?_
  refine V.run 10 rfl ?_
  exact V.rz rfl (Or.inr rfl) ⟨rfl, rfl⟩
theorem c_isRoot0 {w : xW} {x : Int32} (hx : x < 0 ∨ nI 16 ≤ x) : Tot none kX4_isRoot [.int x] w (rI (nI 0) w) := by
  refine eX4_isRoot ?_
  refine V.run 10 rfl ?_
  refine V.br rfl rfl (fun h => ?_) (fun h => ?_)
  · refine V.run 10 rfl ?_
    exact V.rz rfl (Or.inl rfl) ⟨rfl, rfl⟩
  · refine V.run 10 rfl ?_
    refine V.brT rfl rfl (hx.resolve_left h) ?_
    refine V.run 10 rfl ?_
    exact V.rz rfl (Or.inl rfl) ⟨rfl, rfl⟩
section CS
variable {B : Nat} {a : Nat → Nat → Int32} {v : Nat → Int32} {r : xW}
theorem c_words : Tot none kX2_words [.ref 1] (wC B a v r) (rI (nI (32 * B)) (wC B a v r)) := by
  refine eX2_words ?_
  refine V.run 10 rfl ?_
  exact V.ri rfl ⟨rfl, rfl⟩
theorem c_isWord1 (hB : B ≤ 16) {x : Nat} (hx : x < 32 * B) : Tot none kX2_isWord [.ref 1, .int (nI x)] (wC B a v r) (rI (nI 1) (wC B a v r)) := by
  refine eX2_isWord ?_
  refine V.run 10 rfl ?_
  refine V.brF rfl rfl (nI_pos (by omega)) ?_
  refine V.run 10 rfl ?_
  refine V.brF rfl rfl (nI_ge hx (by omega)) ?_
  refine V.run 10 rfl ?_
  exact V.rz rfl (Or.inr rfl) ⟨rfl, rfl⟩
theorem c_isWord0 : Tot none kX2_isWord [.ref 1, .int (-1)] (wC B a v r) (rI (nI 0) (wC B a v r)) := by
  refine eX2_isWord ?_
  refine V.run 10 rfl ?_
  refine V.brT rfl rfl m1_lt0 ?_
  refine V.run 10 rfl ?_
  exact V.rz rfl (Or.inl rfl) ⟨rfl, rfl⟩
theorem c_nameAt (hB : B ≤ 16) {x : Nat} (hx : x < 32 * B) : Tot none kX2_nameAt [.ref 1, .int (nI x)] (wC B a v r) (rI (a 0 x) (wC B a v r)) := by
  refine eX2_nameAt ?_
  refine V.run 10 rfl ?_
  refine V.cv rfl (c_isWord1 hB hx) rfl rfl ?_
  rintro _ _ ⟨rfl, rfl⟩
  refine V.brF rfl rfl i1_ne0 ?_
  refine V.run 10 rfl ?_
  refine V.iald rfl rfl rfl hx (by omega) ?_
  refine V.run 10 rfl ?_
  exact V.ri rfl ⟨rfl, rfl⟩
theorem c_nameAt0 : Tot none kX2_nameAt [.ref 1, .int (-1)] (wC B a v r) (rI (-1) (wC B a v r)) := by
  refine eX2_nameAt ?_
  refine V.run 10 rfl ?_
  refine V.cv rfl c_isWord0 rfl rfl ?_
  rintro _ _ ⟨rfl, rfl⟩
  refine V.brT rfl rfl i0_eq0 ?_
  refine V.run 10 rfl ?_
  exact V.ri rfl ⟨rfl, rfl⟩
theorem c_fieldsOf (hB : B ≤ 16) {x : Nat} (hx : x < 32 * B) : Tot none kX2_fieldsOf [.ref 1, .int (nI x)] (wC B a v r) (rI (a 1 x) (wC B a v r)) := by
  refine eX2_fieldsOf ?_
  refine V.run 10 rfl ?_
  refine V.cv rfl (c_isWord1 hB hx) rfl rfl ?_
  rintro _ _ ⟨rfl, rfl⟩
  refine V.brF rfl rfl i1_ne0 ?_
  refine V.run 10 rfl ?_
  refine V.iald rfl rfl rfl hx (by omega) ?_
  refine V.run 10 rfl ?_
  exact V.ri rfl ⟨rfl, rfl⟩
theorem c_isWatched (hB : B ≤ 16) {x : Nat} (hx : x < 32 * B) (hw : a 2 x = 0 ∨ a 2 x = 1) : Tot none kX2_isWatched [.ref 1, .int (nI x)] (wC B a v r) (rI (a 2 x) (wC B a v r)) := by
  refine eX2_isWatched ?_
  refine V.run 10 rfl ?_
  refine V.cv rfl (c_isWord1 hB hx) rfl rfl ?_
  rintro _ _ ⟨rfl, rfl⟩
  refine V.brF rfl rfl i1_ne0 ?_
  refine V.run 10 rfl ?_
  refine V.zald rfl rfl rfl hx (by omega) ?_
  rcases hw with h | h
  · refine V.brT rfl rfl h ?_
    refine V.run 10 rfl ?_
    exact V.rz rfl (Or.inl rfl) ⟨by rw [h]; rfl, rfl⟩
  · refine V.brF rfl rfl (by rw [h]; decide) ?_
    refine V.run 10 rfl ?_
    exact V.rz rfl (Or.inr rfl) ⟨by rw [h]; rfl, rfl⟩
theorem c_setWatched (hB : B ≤ 16) {x : Nat} {y : Int32} (hx : x < 32 * B) (hy : y = 0 ∨ y = 1) : Tot none kX2_setWatched [.ref 1, .int (nI x), .int y] (wC B a v r) (rN (wC B (uA a 2 x y) v r)) := by
  refine eX2_setWatched ?_
  refine V.run 10 rfl ?_
  refine V.cv rfl (c_isWord1 hB hx) rfl rfl ?_
  rintro _ _ ⟨rfl, rfl⟩
  refine V.brF rfl rfl i1_ne0 ?_
  refine V.run 10 rfl ?_
  refine V.zast (w' := wC B (uA a 2 x y) v r) rfl rfl rfl hx (by omega) hy rfl ?_
  exact V.rv rfl ⟨rfl, rfl⟩
theorem c_kindOf (hB : B ≤ 16) {x f : Nat} (hx : x + 1 + f < 32 * B) : Tot none kX2_kindOf [.ref 1, .int (nI x), .int (nI f)] (wC B a v r) (rI (a 3 (x + 1 + f)) (wC B a v r)) := by
  refine eX2_kindOf ?_
  refine V.run 20 rfl ?_
  rw [nI_add, nI_add]
  refine V.cv rfl (c_isWord1 hB hx) rfl rfl ?_
  rintro _ _ ⟨rfl, rfl⟩
  refine V.brF rfl rfl i1_ne0 ?_
  refine V.run 10 rfl ?_
  refine V.iald rfl rfl rfl hx (by omega) ?_
  refine V.run 10 rfl ?_
  exact V.ri rfl ⟨rfl, rfl⟩
theorem c_valueOf (hB : B ≤ 16) {x f : Nat} (hx : x + 1 + f < 32 * B) : Tot none kX2_valueOf [.ref 1, .int (nI x), .int (nI f)] (wC B a v r) (rI (a 4 (x + 1 + f)) (wC B a v r)) := by
  refine eX2_valueOf ?_
  refine V.run 20 rfl ?_
  rw [nI_add, nI_add]
  refine V.cv rfl (c_isWord1 hB hx) rfl rfl ?_
  rintro _ _ ⟨rfl, rfl⟩
  refine V.brF rfl rfl i1_ne0 ?_
  refine V.run 10 rfl ?_
  refine V.iald rfl rfl rfl hx (by omega) ?_
  refine V.run 10 rfl ?_
  exact V.ri rfl ⟨rfl, rfl⟩
theorem c_write (hB : B ≤ 16) {x f : Nat} {y z : Int32} (hx : x + 1 + f < 32 * B) : Tot none kX2_write [.ref 1, .int (nI x), .int (nI f), .int y, .int z] (wC B a v r) (rN (wC B (uA (uA a 3 (x + 1 + f) y) 4 (x + 1 + f) z) v r)) := by
  refine eX2_write ?_
  refine V.run 20 rfl ?_
  rw [nI_add, nI_add]
  refine V.cv rfl (c_isWord1 hB hx) rfl rfl ?_
  rintro _ _ ⟨rfl, rfl⟩
  refine V.brF rfl rfl i1_ne0 ?_
  refine V.run 10 rfl ?_
  refine V.iast (w' := wC B (uA a 3 (x + 1 + f) y) v r) rfl rfl rfl hx (by omega) rfl ?_
  refine V.run 10 rfl ?_
  refine V.iast (w' := wC B (uA (uA a 3 (x + 1 + f) y) 4 (x + 1 + f) z) v r) rfl rfl rfl hx (by omega) rfl ?_
  exact V.rv rfl ⟨rfl, rfl⟩
theorem c_remove (hB : B ≤ 16) {x : Nat} (hx : x < 32 * B) : Tot none kX2_remove [.ref 1, .int (nI x)] (wC B a v r) (rN (wC B (uA (uA (uA a 0 x (-1)) 1 x (nI 0)) 2 x (nI 0)) v r)) := by
  refine eX2_remove ?_
  refine V.run 20 rfl ?_
  refine V.cv rfl (c_isWord1 hB hx) rfl rfl ?_
  rintro _ _ ⟨rfl, rfl⟩
  refine V.brF rfl rfl i1_ne0 ?_
  refine V.run 10 rfl ?_
  refine V.iast (w' := wC B (uA a 0 x (-1)) v r) rfl rfl rfl hx (by omega) rfl ?_
  refine V.run 10 rfl ?_
  refine V.iast (w' := wC B (uA (uA a 0 x (-1)) 1 x (nI 0)) v r) rfl rfl rfl hx (by omega) rfl ?_
  refine V.run 10 rfl ?_
  refine V.zast (w' := wC B (uA (uA (uA a 0 x (-1)) 1 x (nI 0)) 2 x (nI 0)) v r) rfl rfl rfl hx (by omega) (Or.inl rfl) rfl ?_
  exact V.rv rfl ⟨rfl, rfl⟩
theorem c_has (hB : B ≤ 16) {b : Nat} (hb : b < B) : Tot none kX0_has [.ref 15, .int (nI b)] (wC B a v r) (rI (nI 1) (wC B a v r)) := by
  refine eX0_has ?_
  refine V.run 10 rfl ?_
  refine V.brF rfl rfl (nI_pos (by omega)) ?_
  refine V.run 10 rfl ?_
  refine V.brF rfl rfl (nI_ge hb (by omega)) ?_
  refine V.run 10 rfl ?_
  exact V.rz rfl (Or.inr rfl) ⟨rfl, rfl⟩
theorem c_has0 {x : Int32} (hx : x < 0 ∨ nI B ≤ x) : Tot none kX0_has [.ref 15, .int x] (wC B a v r) (rI (nI 0) (wC B a v r)) := by
  refine eX0_has ?_
  refine V.run 10 rfl ?_
  refine V.br rfl rfl (fun h => ?_) (fun h => ?_)
  · refine V.run 10 rfl ?_
    exact V.rz rfl (Or.inl rfl) ⟨rfl, rfl⟩
  · refine V.run 10 rfl ?_
    refine V.brT rfl rfl (hx.resolve_left h) ?_
    refine V.run 10 rfl ?_
    exact V.rz rfl (Or.inl rfl) ⟨rfl, rfl⟩
theorem c_classOf (hB : B ≤ 16) {b : Nat} (hb : b < B) : Tot none kX0_classOf [.ref 15, .int (nI b)] (wC B a v r) (rI (a 10 b) (wC B a v r)) := by
  refine eX0_classOf ?_
  refine V.run 10 rfl ?_
  refine V.brF rfl rfl (nI_pos (by omega)) ?_
  refine V.run 10 rfl ?_
  refine V.brF rfl rfl (nI_ge hb (by omega)) ?_
  refine V.run 10 rfl ?_
  refine V.iald rfl rfl rfl hb (by omega) ?_
  refine V.run 10 rfl ?_
  exact V.ri rfl ⟨rfl, rfl⟩
theorem c_isUnswept (hB : B ≤ 16) {b : Nat} (hb : b < B) (hu : a 11 b = 0 ∨ a 11 b = 1) : Tot none kX0_isUnswept [.ref 15, .int (nI b)] (wC B a v r) (rI (a 11 b) (wC B a v r)) := by
  refine eX0_isUnswept ?_
  refine V.run 10 rfl ?_
  refine V.cv rfl (c_has hB hb) rfl rfl ?_
  rintro _ _ ⟨rfl, rfl⟩
  refine V.brF rfl rfl i1_ne0 ?_
  refine V.run 10 rfl ?_
  refine V.zald rfl rfl rfl hb (by omega) ?_
  rcases hu with h | h
  · refine V.brT rfl rfl h ?_
    refine V.run 10 rfl ?_
    exact V.rz rfl (Or.inl rfl) ⟨by rw [h]; rfl, rfl⟩
  · refine V.brF rfl rfl (by rw [h]; decide) ?_
    refine V.run 10 rfl ?_
    exact V.rz rfl (Or.inr rfl) ⟨by rw [h]; rfl, rfl⟩
theorem c_isUnswept0 : Tot none kX0_isUnswept [.ref 15, .int (-1)] (wC B a v r) (rI (nI 0) (wC B a v r)) := by
  refine eX0_isUnswept ?_
  refine V.run 10 rfl ?_
  refine V.cv rfl (c_has0 (Or.inl m1_lt0)) rfl rfl ?_
  rintro _ _ ⟨rfl, rfl⟩
  refine V.brT rfl rfl i0_eq0 ?_
  refine V.run 10 rfl ?_
  exact V.rz rfl (Or.inl rfl) ⟨rfl, rfl⟩
theorem c_sweepsDone : Tot none kX0_sweepsDone [.ref 15] (wC B a v r) (rI (v 7) (wC B a v r)) := by
  refine eX0_sweepsDone ?_
  refine V.run 10 rfl ?_
  exact V.ri rfl ⟨rfl, rfl⟩
theorem c_cellsIn (hB : B ≤ 16) {b c : Nat} (hb : b < B) (hc : c < 4) (hk : a 10 b = nI c) : Tot none kX0_cellsIn [.ref 15, .int (nI b)] (wC B a v r) (rI (nI (cpb c)) (wC B a v r)) := by
  refine eX0_cellsIn ?_
  refine V.run 10 rfl ?_
  refine V.cv rfl (c_classOf hB hb) rfl rfl ?_
  rintro _ _ ⟨rfl, rfl⟩
  rw [hk]
  refine V.run 10 rfl ?_
  refine V.brT rfl rfl (nI_m1 (by omega)) ?_
  refine V.run 10 rfl ?_
  refine V.cs rfl (c_cellsPerBlock hc) rfl ?_
  rintro _ _ ⟨rfl, rfl⟩
  exact V.ri rfl ⟨rfl, rfl⟩
theorem c_cellsIn0 (hB : B ≤ 16) {b : Nat} (hb : b < B) (hk : a 10 b = -1) : Tot none kX0_cellsIn [.ref 15, .int (nI b)] (wC B a v r) (rI (nI 0) (wC B a v r)) := by
  refine eX0_cellsIn ?_
  refine V.run 10 rfl ?_
  refine V.cv rfl (c_classOf hB hb) rfl rfl ?_
  rintro _ _ ⟨rfl, rfl⟩
  rw [hk]
  refine V.run 10 rfl ?_
  refine V.brF rfl rfl (fun h => h rfl) ?_
  refine V.run 10 rfl ?_
  exact V.ri rfl ⟨rfl, rfl⟩
theorem c_cellOf (hB : B ≤ 16) {b c i : Nat} (hb : b < B) (hc : c < 4) (hk : a 10 b = nI c) : Tot none kX0_cellOf [.ref 15, .int (nI b), .int (nI i)] (wC B a v r) (rI (nI (b * 32 + i * cwd c)) (wC B a v r)) := by
  refine eX0_cellOf ?_
  refine V.run 10 rfl ?_
  refine V.cv rfl (c_classOf hB hb) rfl rfl ?_
  rintro _ _ ⟨rfl, rfl⟩
  rw [hk]
  refine V.run 10 rfl ?_
  refine V.brT rfl rfl (nI_m1 (by omega)) ?_
  refine V.run 10 rfl ?_
  refine V.cs rfl (c_cellWords hc) rfl ?_
  rintro _ _ ⟨rfl, rfl⟩
  refine V.run 10 rfl ?_
  rw [pk_mul, pk_mul, nI_add]
  exact V.ri rfl ⟨rfl, rfl⟩
end CS
