section VLT
variable {X : Option (Nat × (Nat → Int32))} {k : Nat} {Q : Option Value → xW → Prop} {n : Nat × Nat} {pc : Nat} {ls ls' : xL} {st : List Value} {w : xW}
/-- the first m locals alone -/
theorem V.lt (m : Nat) (h : ls.take m = ls') (kk : V X k Q n pc ls' st w) : V X k Q n pc ls st w := V.locs (fun q hq => by rw [← h] at hq; exact List.mem_of_mem_take hq) kk
end VLT
section CE
variable {B : Nat} {a : Nat → Nat → Int32} {v : Nat → Int32} {r : xW}
theorem c_nameAtE (hB : B ≤ 16) {x : Nat} (hx : x < 32 * B) {y : Int32} (hy : a 0 x = y) : Tot none kX2_nameAt [.ref 1, .int (nI x)] (wC B a v r) (rI y (wC B a v r)) := hy ▸ c_nameAt hB hx
theorem c_fieldsOfE (hB : B ≤ 16) {x : Nat} (hx : x < 32 * B) {y : Int32} (hy : a 1 x = y) : Tot none kX2_fieldsOf [.ref 1, .int (nI x)] (wC B a v r) (rI y (wC B a v r)) := hy ▸ c_fieldsOf hB hx
theorem c_kindOfE (hB : B ≤ 16) {x f : Nat} (hx : x + 1 + f < 32 * B) {y : Int32} (hy : a 3 (x + 1 + f) = y) : Tot none kX2_kindOf [.ref 1, .int (nI x), .int (nI f)] (wC B a v r) (rI y (wC B a v r)) := hy ▸ c_kindOf hB hx
theorem c_valueOfE (hB : B ≤ 16) {x f : Nat} (hx : x + 1 + f < 32 * B) {y : Int32} (hy : a 4 (x + 1 + f) = y) : Tot none kX2_valueOf [.ref 1, .int (nI x), .int (nI f)] (wC B a v r) (rI y (wC B a v r)) := hy ▸ c_valueOf hB hx
theorem c_wgetE (d : Bool) (hB : B ≤ 16) {i n : Nat} (hn : v (vS d) = nI n) (hi : i < n) (hl : n ≤ 16 * B) {y : Int32} (hy : a (oO d) i = y) : Tot none kX3_get [.ref (wo d), .int (nI i)] (wC B a v r) (rI y (wC B a v r)) := hy ▸ c_wget d hB hn hi hl
theorem c_whas1 (d : Bool) (hB : B ≤ 16) {x : Nat} (hx : x < 32 * B) (h : ¬ a (oR d) x = -1) : Tot none kX3_has [.ref (wo d), .int (nI x)] (wC B a v r) (rI (nI 1) (wC B a v r)) := by
  have := c_whas (a := a) (v := v) (r := r) d hB hx
  rwa [if_neg h] at this
theorem c_whas0 (d : Bool) (hB : B ≤ 16) {x : Nat} (hx : x < 32 * B) (h : a (oR d) x = -1) : Tot none kX3_has [.ref (wo d), .int (nI x)] (wC B a v r) (rI (nI 0) (wC B a v r)) := by
  have := c_whas (a := a) (v := v) (r := r) d hB hx
  rwa [if_pos h] at this
/-- the part of an object's targets from its field j on, c of them -/
def tgc (kd vl : Nat → Int32) (x j c : Nat) : List Nat := (List.range' j c).filterMap (fun j => if kd (x + 1 + j) = 1 then some (vl (x + 1 + j)).toNatClampNeg else none)
theorem tgs_tgc {fd kd vl : Nat → Int32} {x m : Nat} (h : fd x = nI m) (hm : m ≤ 15) : tgs fd kd vl x = tgc kd vl x 0 m := by
  unfold tgs tgc
  rw [h, nI_clamp (by omega), List.range_eq_range']
theorem tgc_1 {kd vl : Nat → Int32} {x j c y : Nat} (hk : kd (x + 1 + j) = 1) (hv : vl (x + 1 + j) = nI y) (hy : y < 2 ^ 31) : tgc kd vl x j (c + 1) = y :: tgc kd vl x (j + 1) c := by
  unfold tgc
  rw [List.range'_succ, List.filterMap_cons, if_pos hk, hv, nI_clamp hy]
theorem tgc_0 {kd vl : Nat → Int32} {x j c : Nat} (hk : ¬ kd (x + 1 + j) = 1) : tgc kd vl x j (c + 1) = tgc kd vl x (j + 1) c := by
  unfold tgc
  rw [List.range'_succ, List.filterMap_cons, if_neg hk]
/-- a walk whose members matter, each once -/
def Wg (B : Nat) (G : Nat → Prop) (L : List Nat) : Prop := L.Nodup ∧ ∀ y ∈ L, G y
theorem Wg.len {B : Nat} {fd kd vl : Nat → Int32} {G : Nat → Prop} (hp : hpOK (32 * B) fd kd vl G) {L : List Nat} (h : Wg B G L) : L.length ≤ 16 * B :=
  even_len h.1 (fun x hx => by have := hp x (h.2 x hx); omega)
theorem Wg.add1 {B : Nat} {G : Nat → Prop} {L : List Nat} {x : Nat} (h : Wg B G L) (hx : G x) : Wg B G (ins L x) :=
  ⟨ins_nodup h.1, fun y hy => by rcases ins_mem.mp hy with q | rfl; exact h.2 y q; exact hx⟩
theorem Wg.guard {B : Nat} {fd kd vl : Nat → Int32} {G : Nat → Prop} (hp : hpOK (32 * B) fd kd vl G) {L : List Nat} (h : Wg B G L) {x : Nat} (hx : G x) : x ∈ L ∨ L.length < 16 * B := by
  by_cases q : x ∈ L
  · exact Or.inl q
  · right
    have h1 := (h.add1 hx).len hp
    simp only [ins, q, if_false, List.length_append, List.length_cons, List.length_nil] at h1
    omega
theorem c_spread_in (d : Bool) (hB : B ≤ 16) {G : Nat → Prop} (hp : hpOK (32 * B) (a 1) (a 3) (a 4) G) {x m i : Nat} (hx : G x) (hm : a 1 x = nI m) (hm15 : m ≤ 15) {Q : Option Value → xW → Prop} : ∀ (c j : Nat) (L : List Nat) (f g : Nat → Int32) (n : Int32), j + c = m → Wk (32 * B) L f g n → Wg B G L →
    (∀ L' f' g' n', L' = insL L (tgc (a 3) (a 4) x j c) → Wk (32 * B) L' f' g' n' → Wg B G L' → V none 49 Q (0, 0) 70 [(0, .ref (wo d)), (1, .ref 1), (2, .int (nI i)), (3, .int (nI x)), (4, .int (nI m))] [] (wC B (setA (setA a (oO d) f') (oR d) g') (uV v (vS d) n') r)) →
    V none 49 Q (0, 0) 36 [(0, .ref (wo d)), (1, .ref 1), (2, .int (nI i)), (3, .int (nI x)), (4, .int (nI j))] [.int (nI x), .ref 1, .int (nI j)] (wC B (setA (setA a (oO d) f) (oR d) g) (uV v (vS d) n) r) := by
  obtain ⟨hxN, -, m', hm', hf', hmN, hj'⟩ := hp x hx
  have e : m' = m := nI_inj (by omega) (by omega) (hf'.symm.trans hm)
  subst e
  intro c
  induction c with
  | zero =>
    intro j L f g n hj hW hG kk
    have kk := kk L f g n rfl hW hG
    have e : j = m' := by omega
    subst e
    cases d
    all_goals
      refine V.cv rfl (c_fieldsOfE hB hxN hm) rfl rfl ?_
      rintro _ _ ⟨rfl, rfl⟩
      refine V.brT rfl rfl (nI_le (Nat.le_refl j) (by omega)) ?_
      exact kk
  | succ c ih =>
    intro j L f g n hj hW hG kk
    have hjN : x + 1 + j < 32 * B := by omega
    have hjm := hj' j (by omega)
    by_cases h1 : a 3 (x + 1 + j) = 1
    · obtain ⟨y, hy, hyG⟩ : ∃ y, a 4 (x + 1 + j) = nI y ∧ G y := by
        rcases hjm with h0 | ⟨-, h⟩
        · rw [h0] at h1; exact absurd h1 (by decide)
        · exact h
      have hyN := (hp y hyG).1
      rw [tgc_1 h1 hy (by omega)] at kk
      cases d
      all_goals
        refine V.cv rfl (c_fieldsOfE hB hxN hm) rfl rfl ?_
        rintro _ _ ⟨rfl, rfl⟩
        refine V.brF rfl rfl (nI_ge (show j < m' by omega) (by omega)) ?_
        refine V.run 20 rfl ?_
        refine V.cv rfl (c_kindOfE hB hjN h1) rfl rfl ?_
        rintro _ _ ⟨rfl, rfl⟩
        refine V.run 20 rfl ?_
        refine V.brF rfl rfl (fun h => h rfl) ?_
        refine V.run 20 rfl ?_
        refine V.cv rfl (c_valueOfE hB hjN hy) rfl rfl ?_
        rintro _ _ ⟨rfl, rfl⟩
        refine V.cv rfl (c_come _ hB hyN hW (hG.len hp) (hG.guard hp hyG)) rfl rfl ?_
        rintro _ _ ⟨rfl, f', g', n', rfl, hW'⟩
        refine V.run 20 rfl ?_
        rw [nI_add]
        exact ih (j + 1) _ f' g' n' (by omega) hW' (hG.add1 hyG) kk
    · rw [tgc_0 h1] at kk
      cases d
      all_goals
        refine V.cv rfl (c_fieldsOfE hB hxN hm) rfl rfl ?_
        rintro _ _ ⟨rfl, rfl⟩
        refine V.brF rfl rfl (nI_ge (show j < m' by omega) (by omega)) ?_
        refine V.run 20 rfl ?_
        refine V.cv rfl (c_kindOf hB hjN) rfl rfl ?_
        rintro _ _ ⟨rfl, rfl⟩
        refine V.run 20 rfl ?_
        refine V.brT rfl rfl h1 ?_
        refine V.run 20 rfl ?_
        rw [nI_add]
        exact ih (j + 1) L f g n (by omega) hW hG kk
theorem c_spread (d : Bool) (hB : B ≤ 16) {G : Nat → Prop} (hp : hpOK (32 * B) (a 1) (a 3) (a 4) G) {L : List Nat} {i : Nat} (hW : Wk (32 * B) L (a (oO d)) (a (oR d)) (v (vS d))) (hG : Wg B G L) (hi : v (vL d) = nI i) (hil : i ≤ L.length) :
    Tot none kX3_spread [.ref (wo d), .ref 1] (wC B a v r) (fun o w' => o = none ∧ ∃ f g n, w' = wC B (setA (setA a (oO d) f) (oR d) g) (uV (uV v (vS d) n) (vL d) n) r ∧ Wk (32 * B) (fol (tgs (a 1) (a 3) (a 4)) (16 * B + 1 - i) i L) f g n ∧ Wg B G (fol (tgs (a 1) (a 3) (a 4)) (16 * B + 1 - i) i L)) := by
  have loop : ∀ (m i : Nat) (L R : List Nat) (f g : Nat → Int32) (n : Int32), i + m = 16 * B + 1 → i ≤ L.length → Wk (32 * B) L f g n → Wg B G L → R = fol (tgs (a 1) (a 3) (a 4)) m i L → ∀ xi : Int32, xi = nI i →
      V none 49 (fun o w' => o = none ∧ ∃ f g n, w' = wC B (setA (setA a (oO d) f) (oR d) g) (uV (uV v (vS d) n) (vL d) n) r ∧ Wk (32 * B) R f g n ∧ Wg B G R) (0, 0) 10 [(0, .ref (wo d)), (1, .ref 1), (2, .int xi)] [.int n, .int xi] (wC B (setA (setA a (oO d) f) (oR d) g) (uV v (vS d) n) r) := by
    intro m
    induction m with
    | zero =>
      intro i L R f g n him hiL hW1 hG1 hR _ hxi
      subst hxi
      have := hG1.len hp
      omega
    | succ m ih =>
      intro i L R f g n him hiL hW1 hG1 hR _ hxi
      subst hxi
      have hlen := hG1.len hp
      have hn := hW1.1
      subst hn
      by_cases hlt : i < L.length
      · obtain ⟨x, hx⟩ : ∃ x, L[i]? = some x := ⟨_, List.getElem?_eq_getElem hlt⟩
        have hfx := (hW1.2.1 i x hx).1
        have hxG := hG1.2 x (List.mem_of_getElem? hx)
        obtain ⟨hxN, -, q, hq15, hfq, -, -⟩ := hp x hxG
        have hR' : R = fol (tgs (a 1) (a 3) (a 4)) m (i + 1) (insL L (tgc (a 3) (a 4) x 0 q)) := by
          rw [hR, fol, if_pos hlt, List.getD_eq_getElem?_getD, hx, ← tgs_tgc hfq hq15]
          rfl
        cases d
        all_goals
          refine V.brF rfl rfl (nI_ge hlt (by omega)) ?_
          refine V.run 20 rfl ?_
          refine V.brF rfl rfl (nI_ge (show i < 16 * B by omega) (by omega)) ?_
          refine V.run 20 rfl ?_
          refine V.ialE rfl rfl rfl (show i < 16 * B by omega) (by omega) hfx ?_
          refine V.run 20 rfl ?_
          refine c_spread_in _ hB hp hxG hfq hq15 q 0 L f g _ (by omega) hW1 hG1 (fun L' f' g' n' hL' hW' hG' => ?_)
          refine V.run 20 rfl ?_
          rw [nI_add]
          refine V.lt 3 rfl ?_
          refine ih (i + 1) L' R f' g' n' (by omega) ?_ hW' hG' (by rw [hL']; exact hR') _ rfl
          obtain ⟨M, hM⟩ := insL_pre (tgc (a 3) (a 4) x 0 q) L
          rw [hL', hM, List.length_append]
          omega
      · have hR' : R = L := by rw [hR, fol, if_neg hlt]
        subst hR'
        cases d
        all_goals
          refine V.brT rfl rfl (nI_le (by omega) (by omega)) ?_
          refine V.run 20 rfl ?_
          refine V.puti rfl rfl rfl ?_
          exact V.rv rfl ⟨rfl, f, g, _, rfl, hW1, hG1⟩
  refine eX3_spread ?_
  have h := loop (16 * B + 1 - i) i L _ (a (oO d)) (a (oR d)) (v (vS d)) (by have := hG.len hp; omega) hil hW hG rfl _ hi
  cases d
  all_goals
    refine V.run 20 rfl ?_
    exact h
end CE
