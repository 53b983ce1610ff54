/-- an array that holds a list of addresses -/
def Ql (L : List Nat) (f : Nat → Int32) (n : Int32) : Prop := n = nI L.length ∧ ∀ i x, L[i]? = some x → f i = nI x
/-- what roots refer to: from root j on, c of them -/
def rts (rt : Nat → Int32) (j c : Nat) : List Nat := (List.range' j c).filterMap (fun j => if rt j = -1 then none else some (rt j).toNatClampNeg)
theorem rts_0 {rt : Nat → Int32} {j c : Nat} (h : rt j = -1) : rts rt j (c + 1) = rts rt (j + 1) c := by
  unfold rts
  rw [List.range'_succ, List.filterMap_cons, if_pos h]
theorem rts_1 {rt : Nat → Int32} {j c x : Nat} (h : rt j = nI x) (hx : x < 2 ^ 31) : rts rt j (c + 1) = x :: rts rt (j + 1) c := by
  unfold rts
  rw [List.range'_succ, List.filterMap_cons, if_neg (by rw [h]; exact nI_m1 hx), h, nI_clamp hx]
/-- roots refer to none, or to what matters -/
def rtOK (rt : Nat → Int32) (G : Nat → Prop) : Prop := ∀ i, i < 16 → rt i = -1 ∨ ∃ x, rt i = nI x ∧ G x
theorem insL_nil (L : List Nat) : insL L [] = L := rfl
theorem insL_cons (L ys : List Nat) (y : Nat) : insL L (y :: ys) = insL (ins L y) ys := rfl
section CH
variable {B : Nat} {a : Nat → Nat → Int32} {v : Nat → Int32} {r : xW}
theorem c_lsize : Tot none kX1_size [.ref 13] (wC B a v r) (rI (v 6) (wC B a v r)) := by
  refine eX1_size ?_
  refine V.run 10 rfl ?_
  exact V.ri rfl ⟨rfl, rfl⟩
theorem c_lsizeE {y : Int32} (hy : v 6 = y) : Tot none kX1_size [.ref 13] (wC B a v r) (rI y (wC B a v r)) := hy ▸ c_lsize
theorem c_lgetE (hB : B ≤ 16) {i n : Nat} (hn : v 6 = nI n) (hi : i < n) (hl : n ≤ 16 * B) {y : Int32} (hy : a 9 i = y) : Tot none kX1_get [.ref 13, .int (nI i)] (wC B a v r) (rI y (wC B a v r)) := by
  refine eX1_get ?_
  refine V.run 10 rfl ?_
  refine V.brF rfl rfl (nI_pos (by omega)) ?_
  refine V.run 10 rfl ?_
  refine V.brF rfl rfl (fun h => nI_ge hi (by omega) (hn ▸ h)) ?_
  refine V.run 10 rfl ?_
  refine V.brF rfl rfl (nI_ge (show i < 16 * B by omega) (by omega)) ?_
  refine V.run 10 rfl ?_
  refine V.ialE rfl rfl rfl (show i < 16 * B by omega) (by omega) hy ?_
  refine V.run 10 rfl ?_
  exact V.ri rfl ⟨rfl, rfl⟩
/-- the world behind walking: the walk's arrays and number are others -/
abbrev wWk (d : Bool) (B : Nat) (a : Nat → Nat → Int32) (v : Nat → Int32) (r : xW) (f g : Nat → Int32) (n : Int32) : xW := wC B (setA (setA a (oO d) f) (oR d) g) (uV v (vS d) n) r
theorem c_held_q (d : Bool) (hB : B ≤ 16) {G : Nat → Prop} (hp : hpOK (32 * B) (a 1) (a 3) (a 4) G) {Qs : List Nat} (hq : Ql Qs (a 9) (v 6)) (hqG : Wg B G Qs) {Q : Option Value → xW → Prop} : ∀ (c j : Nat) (L : List Nat) (f g : Nat → Int32) (n : Int32), j + c = Qs.length → Wk (32 * B) L f g n → Wg B G L →
    (∀ f' g' n', Wk (32 * B) (insL L (Qs.drop j)) f' g' n' → Wg B G (insL L (Qs.drop j)) → Q none (wWk d B a v r f' g' n')) →
    V none 79 Q (0, 0) 31 [(0, .ref 0), (1, .ref (wo d)), (2, .int (nI j))] [.ref 13, .int (nI j)] (wWk d B a v r f g n) := by
  have hql := hqG.len hp
  intro c
  induction c with
  | zero =>
    intro j L f g n hj hW hG kk
    have e : Qs.drop j = [] := List.drop_eq_nil_of_le (by omega)
    rw [e] at kk
    have hs := hq.1
    cases d
    all_goals
      refine V.cv rfl (c_lsizeE hs) rfl rfl ?_
      rintro _ _ ⟨rfl, rfl⟩
      refine V.brT rfl rfl (nI_le (by omega) (by omega)) ?_
      exact V.rv rfl (kk f g n hW hG)
  | succ c ih =>
    intro j L f g n hj hW hG kk
    obtain ⟨x, hx⟩ : ∃ x, Qs[j]? = some x := ⟨_, List.getElem?_eq_getElem (by omega)⟩
    have e : Qs.drop j = x :: Qs.drop (j + 1) := by
      obtain ⟨h1, h2⟩ := List.getElem?_eq_some_iff.mp hx
      rw [← h2]
      exact List.drop_eq_getElem_cons h1
    rw [e, insL_cons] at kk
    have hs := hq.1
    have hfx := hq.2 j x hx
    have hxG := hqG.2 x (List.mem_of_getElem? hx)
    have hxN := (hp x hxG).1
    cases d
    all_goals
      refine V.cv rfl (c_lsizeE hs) rfl rfl ?_
      rintro _ _ ⟨rfl, rfl⟩
      refine V.brF rfl rfl (nI_ge (show j < Qs.length by omega) (by omega)) ?_
      refine V.run 20 rfl ?_
      refine V.cv rfl (c_lgetE hB (by exact hs) (show j < Qs.length by omega) (by omega) (by exact hfx)) rfl rfl ?_
      rintro _ _ ⟨rfl, rfl⟩
      refine V.cv rfl (c_come _ hB hxN hW (hG.len hp) (hG.guard hp hxG)) rfl rfl ?_
      rintro _ _ ⟨rfl, f', g', n', rfl, hW'⟩
      refine V.run 20 rfl ?_
      rw [nI_add]
      exact ih (j + 1) _ f' g' n' (by omega) hW' (hG.add1 hxG) kk
theorem c_held_r (d : Bool) (hB : B ≤ 16) {G : Nat → Prop} (hp : hpOK (32 * B) (a 1) (a 3) (a 4) G) (hr : rtOK (a 12) G) {Qs : List Nat} (hq : Ql Qs (a 9) (v 6)) (hqG : Wg B G Qs) {Q : Option Value → xW → Prop} : ∀ (c j : Nat) (L : List Nat) (f g : Nat → Int32) (n : Int32), j + c = 16 → Wk (32 * B) L f g n → Wg B G L →
    (∀ f' g' n', Wk (32 * B) (insL (insL L (rts (a 12) j c)) Qs) f' g' n' → Wg B G (insL (insL L (rts (a 12) j c)) Qs) → Q none (wWk d B a v r f' g' n')) →
    V none 79 Q (0, 0) 5 [(0, .ref 0), (1, .ref (wo d)), (2, .int (nI j))] [.int (nI 16), .int (nI j)] (wWk d B a v r f g n) := by
  intro c
  induction c with
  | zero =>
    intro j L f g n hj hW hG kk
    have e : rts (a 12) j 0 = [] := rfl
    rw [e, insL_nil] at kk
    have h := c_held_q (r := r) d hB hp hq hqG (Q := Q) Qs.length 0 L f g n (by omega) hW hG kk
    cases d
    all_goals
      refine V.brT rfl rfl (nI_le (by omega) (by omega)) ?_
      refine V.run 20 rfl ?_
      exact h
  | succ c ih =>
    intro j L f g n hj hW hG kk
    rcases hr j (by omega) with h0 | ⟨x, hx, hxG⟩
    · rw [rts_0 h0] at kk
      cases d
      all_goals
        refine V.brF rfl rfl (nI_ge (show j < 16 by omega) (by omega)) ?_
        refine V.run 20 rfl ?_
        refine V.ialE rfl rfl rfl (show j < 16 by omega) (by omega) h0 ?_
        refine V.cv rfl (c_come0 _) rfl rfl ?_
        rintro _ _ ⟨rfl, rfl⟩
        refine V.run 20 rfl ?_
        rw [nI_add]
        exact ih (j + 1) L f g n (by omega) hW hG kk
    · have hxN := (hp x hxG).1
      rw [rts_1 hx (by omega), insL_cons] at kk
      cases d
      all_goals
        refine V.brF rfl rfl (nI_ge (show j < 16 by omega) (by omega)) ?_
        refine V.run 20 rfl ?_
        refine V.ialE rfl rfl rfl (show j < 16 by omega) (by omega) hx ?_
        refine V.cv rfl (c_come _ hB hxN hW (hG.len hp) (hG.guard hp hxG)) rfl rfl ?_
        rintro _ _ ⟨rfl, f', g', n', rfl, hW'⟩
        refine V.run 20 rfl ?_
        rw [nI_add]
        exact ih (j + 1) _ f' g' n' (by omega) hW' (hG.add1 hxG) kk
/-- what roots and the queue hold -/
def heldL (rt : Nat → Int32) (Qs : List Nat) : List Nat := insL (insL [] (rts rt 0 16)) Qs
theorem c_comeToHeld (d : Bool) (hB : B ≤ 16) {G : Nat → Prop} (hp : hpOK (32 * B) (a 1) (a 3) (a 4) G) (hr : rtOK (a 12) G) {Qs : List Nat} (hq : Ql Qs (a 9) (v 6)) (hqG : Wg B G Qs) (hW : Wk (32 * B) [] (a (oO d)) (a (oR d)) (v (vS d))) :
    Tot none kX4_comeToHeld [.ref 0, .ref (wo d)] (wC B a v r) (fun o w' => o = none ∧ ∃ f g n, w' = wWk d B a v r f g n ∧ Wk (32 * B) (heldL (a 12) Qs) f g n ∧ Wg B G (heldL (a 12) Qs)) := by
  refine eX4_comeToHeld ?_
  have h := c_held_r (r := r) d hB hp hr hq hqG (Q := fun o w' => o = none ∧ ∃ f g n, w' = wWk d B a v r f g n ∧ Wk (32 * B) (heldL (a 12) Qs) f g n ∧ Wg B G (heldL (a 12) Qs)) 16 0 [] (a (oO d)) (a (oR d)) (v (vS d)) (by omega) hW ⟨List.nodup_nil, fun y h => by simp at h⟩ (fun f g n h1 h2 => ⟨rfl, f, g, n, rfl, h1, h2⟩)
  cases d
  all_goals
    refine V.run 20 rfl ?_
    exact h
theorem c_heldObjects (hB : B ≤ 16) {G : Nat → Prop} (hp : hpOK (32 * B) (a 1) (a 3) (a 4) G) (hr : rtOK (a 12) G) {Qs : List Nat} (hq : Ql Qs (a 9) (v 6)) (hqG : Wg B G Qs) :
    Tot none kX4_heldObjects [.ref 0] (wC B a v r) (fun o w' => o = some (.int (nI (fol (tgs (a 1) (a 3) (a 4)) (16 * B + 1) 0 (heldL (a 12) Qs)).length)) ∧ ∃ f g n m, w' = wC B (setA (setA a 7 f) 8 g) (uV (uV v 4 n) 5 m) r) := by
  refine eX4_heldObjects ?_
  refine V.run 20 rfl ?_
  refine V.cv rfl (c_clear true hB) rfl rfl ?_
  rintro _ _ ⟨rfl, g, rfl, hg⟩
  refine V.run 20 rfl ?_
  refine V.cv rfl (c_comeToHeld true hB (a := setA a 8 g) hp hr hq hqG (Wk.nil hg)) rfl rfl ?_
  rintro _ _ ⟨rfl, f1, g1, n1, rfl, hW1, hG1⟩
  refine V.run 20 rfl ?_
  refine V.cv rfl (c_spread true hB (L := heldL (a 12) Qs) (i := 0) (a := setA (setA (setA a 8 g) 7 f1) 8 g1) hp hW1 hG1 rfl (Nat.zero_le _)) rfl rfl ?_
  rintro _ _ ⟨rfl, f2, g2, n2, rfl, hW2, hG2⟩
  refine V.run 20 rfl ?_
  refine V.cv rfl (c_wsize true) rfl rfl ?_
  rintro _ _ ⟨rfl, rfl⟩
  exact V.ri rfl ⟨congrArg (fun z => some (Value.int z)) hW2.1, f2, g2, n2, n2, rfl⟩
end CH
