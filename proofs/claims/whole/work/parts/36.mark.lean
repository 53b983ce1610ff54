/-! watched objects that are not marked come to the queue; marking as a whole -/
def sq (nm wt : Nat → Int32) (L : List Nat) : Nat → List Nat
  | 0 => []
  | k + 1 => if wt (2 * k) = 1 ∧ 2 * k ∉ L then insN nm (2 * k) (sq nm wt L k) else sq nm wt L k
def wtQ (wt : Nat → Int32) (L : List Nat) (k : Nat) : Nat → Int32 := fun w => bif Nat.ble (w + 1) (2 * k) && (Nat.beq (w % 2) 0 && (decide (wt w = 1) && !decide (w ∈ L))) then nI 0 else wt w
theorem sq_mem {nm wt : Nat → Int32} {L : List Nat} {y : Nat} : ∀ {k : Nat}, y ∈ sq nm wt L k ↔ y < 2 * k ∧ y % 2 = 0 ∧ wt y = 1 ∧ y ∉ L
  | 0 => by simp [sq]
  | k + 1 => by
    unfold sq
    have ih := sq_mem (nm := nm) (wt := wt) (L := L) (y := y) (k := k)
    split
    · rename_i h
      rw [insN_mem, ih]
      constructor
      · rintro (rfl | h2)
        · exact ⟨by omega, by omega, h.1, h.2⟩
        · exact ⟨by omega, h2.2⟩
      · rintro ⟨h1, h2, h3⟩
        by_cases q : y = 2 * k
        · exact Or.inl q
        · exact Or.inr ⟨by omega, h2, h3⟩
    · rename_i h
      rw [ih]
      constructor
      · rintro ⟨h1, h2⟩
        exact ⟨by omega, h2⟩
      · rintro ⟨h1, h2, h3⟩
        refine ⟨?_, h2, h3⟩
        have : y ≠ 2 * k := fun q => h (q ▸ h3)
        omega
theorem wtQ_0 (wt : Nat → Int32) (L : List Nat) : wtQ wt L 0 = wt := by
  funext w
  have : Nat.ble (w + 1) (2 * 0) = false := by rw [Bool.eq_false_iff]; simp
  simp only [wtQ, this, Bool.false_and, cond_false]
theorem wtQ_at (wt : Nat → Int32) (L : List Nat) (k : Nat) : wtQ wt L k (2 * k) = wt (2 * k) := by
  have : Nat.ble (2 * k + 1) (2 * k) = false := by rw [Bool.eq_false_iff]; simp only [ne_eq, Nat.ble_eq]; omega
  simp only [wtQ, this, Bool.false_and, cond_false]
theorem wtQ_ne {wt : Nat → Int32} {L : List Nat} {k w : Nat} (h : w ≠ 2 * k) : wtQ wt L (k + 1) w = wtQ wt L k w := by
  unfold wtQ
  have : (Nat.ble (w + 1) (2 * (k + 1)) && (Nat.beq (w % 2) 0 && (decide (wt w = 1) && !decide (w ∈ L)))) = (Nat.ble (w + 1) (2 * k) && (Nat.beq (w % 2) 0 && (decide (wt w = 1) && !decide (w ∈ L)))) := by
    rw [Bool.eq_iff_iff]
    simp only [Bool.and_eq_true, Nat.ble_eq, Nat.beq_eq]
    constructor
    · rintro ⟨h1, h2, h3⟩; exact ⟨by omega, h2, h3⟩
    · rintro ⟨h1, h2, h3⟩; exact ⟨by omega, h2, h3⟩
  rw [this]
theorem wtQ_cut {wt : Nat → Int32} {L : List Nat} {k : Nat} (h : wt (2 * k) = 1 ∧ 2 * k ∉ L) : upd (wtQ wt L k) (2 * k) (nI 0) = wtQ wt L (k + 1) := by
  funext w
  by_cases q : w = 2 * k
  · subst q
    rw [upd_s]
    have h1 : Nat.ble (2 * k + 1) (2 * (k + 1)) = true := by simp only [Nat.ble_eq]; omega
    simp [wtQ, h1, h.1, h.2]
  · rw [upd_n q, wtQ_ne q]
theorem wtQ_keep {wt : Nat → Int32} {L : List Nat} {k : Nat} (h : ¬ (wt (2 * k) = 1 ∧ 2 * k ∉ L)) : wtQ wt L k = wtQ wt L (k + 1) := by
  funext w
  by_cases q : w = 2 * k
  · subst q
    rw [wtQ_at]
    unfold wtQ
    have : (decide (wt (2 * k) = 1) && !decide (2 * k ∈ L)) = false := by
      rw [Bool.eq_false_iff]
      simpa using h
    rw [this]
    simp
  · rw [wtQ_ne q]
section CQ
variable {B : Nat} {a : Nat → Nat → Int32} {v : Nat → Int32} {r : xW}
theorem c_isWatchedE (hB : B ≤ 16) {x : Nat} (hx : x < 32 * B) {y : Int32} (hy : a 2 x = y) (hw : y = 0 ∨ y = 1) : Tot none kX2_isWatched [.ref 1, .int (nI x)] (wC B a v r) (rI y (wC B a v r)) := by
  subst hy
  exact c_isWatched hB hx hw
/-- of watched objects: each matters, and no two have one name -/
def wtOK (N : Nat) (nm wt : Nat → Int32) (G : Nat → Prop) : Prop := (∀ w, w < N → wt w = 0 ∨ wt w = 1) ∧ (∀ w, w < N → wt w = 1 → G w) ∧ ∀ x y, x < N → y < N → wt x = 1 → wt y = 1 → nm x = nm y → x = y
theorem sq_ok {N : Nat} {nm wt : Nat → Int32} {G : Nat → Prop} (h : wtOK N nm wt G) (L : List Nat) : ∀ k, 2 * k ≤ N → (sq nm wt L k).Nodup ∧ srt nm (sq nm wt L k)
  | 0, _ => ⟨by simp [sq], by simp [sq, srt]⟩
  | k + 1, hk => by
    obtain ⟨h1, h2⟩ := sq_ok h L k (by omega)
    unfold sq
    split
    · rename_i hc
      refine ⟨insN_nodup h1 (fun q => ?_), insN_srt h2 (fun y hy e => ?_)⟩
      · have := (sq_mem.mp q).1; omega
      · have hy' := sq_mem.mp hy
        have := h.2.2 y (2 * k) (by omega) (by omega) hy'.2.2.1 hc.1 e
        omega
    · exact ⟨h1, h2⟩
theorem c_qw_2 (hB : B ≤ 16) {G : Nat → Prop} (hp : hpOK (32 * B) (a 1) (a 3) (a 4) G) {Qs : List Nat} (hq : Ql Qs (a 9) (v 6)) (hqG : Wg B G Qs) {q0 : Int32} {Q : Option Value → xW → Prop} : ∀ (c j : Nat) (L : List Nat) (f g : Nat → Int32) (n : Int32), j + c = Qs.length → Wk (32 * B) L f g n → Wg B G L →
    (∀ f' g' n', Wk (32 * B) (insL L (Qs.drop j)) f' g' n' → Wg B G (insL L (Qs.drop j)) → Q none (wWk false B a v r f' g' n')) →
    V none 82 Q (0, 0) 78 [(0, .ref 0), (1, .int q0), (2, .int (nI j))] [.ref 13, .int (nI j)] (wWk false B a v r f g n) := by
  have hql := hqG.len hp
  intro c
  induction c with
  | zero =>
    intro j L f g n hj hW hG kk
    have e : Qs.drop j = [] := List.drop_eq_nil_of_le (by omega)
    rw [e] at kk
    have hs := hq.1
    refine V.cv rfl (c_lsizeE hs) rfl rfl ?_
    rintro _ _ ⟨rfl, rfl⟩
    refine V.brT rfl rfl (nI_le (by omega) (by omega)) ?_
    exact V.rv rfl (kk f g n hW hG)
  | succ c ih =>
    intro j L f g n hj hW hG kk
    obtain ⟨x, hx⟩ : ∃ x, Qs[j]? = some x := ⟨_, List.getElem?_eq_getElem (by omega)⟩
    have e : Qs.drop j = x :: Qs.drop (j + 1) := by
      obtain ⟨h1, h2⟩ := List.getElem?_eq_some_iff.mp hx
      rw [← h2]
      exact List.drop_eq_getElem_cons h1
    rw [e, insL_cons] at kk
    have hs := hq.1
    have hfx := hq.2 j x hx
    have hxG := hqG.2 x (List.mem_of_getElem? hx)
    have hxN := (hp x hxG).1
    refine V.cv rfl (c_lsizeE hs) rfl rfl ?_
    rintro _ _ ⟨rfl, rfl⟩
    refine V.brF rfl rfl (nI_ge (show j < Qs.length by omega) (by omega)) ?_
    refine V.run 20 rfl ?_
    refine V.cv rfl (c_lgetE hB (by exact hs) (show j < Qs.length by omega) (by omega) (by exact hfx)) rfl rfl ?_
    rintro _ _ ⟨rfl, rfl⟩
    refine V.cv rfl (c_come false hB hxN hW (hG.len hp) (hG.guard hp hxG)) rfl rfl ?_
    rintro _ _ ⟨rfl, f', g', n', rfl, hW'⟩
    refine V.run 20 rfl ?_
    rw [nI_add]
    exact ih (j + 1) _ f' g' n' (by omega) hW' (hG.add1 hxG) kk
theorem c_queueWatched (hB : B ≤ 16) {G : Nat → Prop} (hp : hpOK (32 * B) (a 1) (a 3) (a 4) G) (hwt : wtOK (32 * B) (a 0) (a 2) G) {Q0 L : List Nat} (hq : Ql Q0 (a 9) (v 6)) (hqG : Wg B G Q0) (hQL : ∀ y ∈ Q0, y ∈ L) (hW : Wk (32 * B) L (a 5) (a 6) (v 2)) (hG : Wg B G L) :
    Tot none kX4_queueWatched [.ref 0] (wC B a v r) (fun o w' => o = none ∧ ∃ fq nq f g n, w' = wWk false B (setA (setA a 2 (wtQ (a 2) L (16 * B))) 9 fq) (uV v 6 nq) r f g n ∧ Ql (Q0 ++ sq (a 0) (a 2) L (16 * B)) fq nq ∧ Wg B G (Q0 ++ sq (a 0) (a 2) L (16 * B)) ∧ Wk (32 * B) (insL L (sq (a 0) (a 2) L (16 * B))) f g n ∧ Wg B G (insL L (sq (a 0) (a 2) L (16 * B)))) := by
  have hlen := hG.len hp
  have hQT : ∀ k, 2 * k ≤ 32 * B → Wg B G (Q0 ++ sq (a 0) (a 2) L k) := by
    intro k hk
    refine ⟨List.nodup_append.mpr ⟨hqG.1, (sq_ok hwt L k hk).1, ?_⟩, fun y hy => ?_⟩
    · intro x hx y hy e
      subst e
      exact (sq_mem.mp hy).2.2.2 (hQL x hx)
    · rcases List.mem_append.mp hy with h | h
      · exact hqG.2 y h
      · have := sq_mem.mp h
        exact hwt.2.1 y (by omega) this.2.2.1
  have loop : ∀ (c k : Nat) (f : Nat → Int32) (n : Int32), k + c = 16 * B → Ql (Q0 ++ sq (a 0) (a 2) L k) f n →
      V none 82 (fun o w' => o = none ∧ ∃ fq nq f g n, w' = wWk false B (setA (setA a 2 (wtQ (a 2) L (16 * B))) 9 fq) (uV v 6 nq) r f g n ∧ Ql (Q0 ++ sq (a 0) (a 2) L (16 * B)) fq nq ∧ Wg B G (Q0 ++ sq (a 0) (a 2) L (16 * B)) ∧ Wk (32 * B) (insL L (sq (a 0) (a 2) L (16 * B))) f g n ∧ Wg B G (insL L (sq (a 0) (a 2) L (16 * B)))) (0, 0) 15 [(0, .ref 0), (1, .int (nI Q0.length)), (2, .int (nI (2 * k)))] [.ref 1, .int (nI (2 * k))] (wC B (setA (setA a 2 (wtQ (a 2) L k)) 9 f) (uV v 6 n) r) := by
    intro c
    induction c with
    | zero =>
      intro k f n hk hf
      have e : k = 16 * B := by omega
      subst e
      refine V.cv rfl c_words rfl rfl ?_
      rintro _ _ ⟨rfl, rfl⟩
      refine V.brT rfl rfl (nI_le (by omega) (by omega)) ?_
      refine V.run 20 rfl ?_
      have h := c_qw_2 (r := r) (a := setA (setA a 2 (wtQ (a 2) L (16 * B))) 9 f) (v := uV v 6 n) (q0 := nI Q0.length) hB hp hf (hQT (16 * B) (by omega)) (Q := fun o w' => o = none ∧ ∃ fq nq f g n, w' = wWk false B (setA (setA a 2 (wtQ (a 2) L (16 * B))) 9 fq) (uV v 6 nq) r f g n ∧ Ql (Q0 ++ sq (a 0) (a 2) L (16 * B)) fq nq ∧ Wg B G (Q0 ++ sq (a 0) (a 2) L (16 * B)) ∧ Wk (32 * B) (insL L (sq (a 0) (a 2) L (16 * B))) f g n ∧ Wg B G (insL L (sq (a 0) (a 2) L (16 * B)))) (sq (a 0) (a 2) L (16 * B)).length Q0.length L (a 5) (a 6) (v 2) (by rw [List.length_append]) hW hG (by
        rw [List.drop_left]
        exact fun f' g' n' h1 h2 => ⟨rfl, f, n, f', g', n', rfl, hf, hQT (16 * B) (by omega), h1, h2⟩)
      exact h
    | succ c ih =>
      intro k f n hk hf
      have hkN : 2 * k < 32 * B := by omega
      have hqt := hQT k (by omega)
      refine V.cv rfl c_words rfl rfl ?_
      rintro _ _ ⟨rfl, rfl⟩
      refine V.brF rfl rfl (nI_ge hkN (by omega)) ?_
      refine V.run 20 rfl ?_
      by_cases hc : a 2 (2 * k) = 1 ∧ 2 * k ∉ L
      · have e1 : sq (a 0) (a 2) L (k + 1) = insN (a 0) (2 * k) (sq (a 0) (a 2) L k) := by rw [sq, if_pos hc]
        have hxG := hwt.2.1 _ hkN hc.1
        refine V.cv rfl (c_isWatchedE hB hkN (y := 1) (by exact (wtQ_at (a 2) L k).trans hc.1) (Or.inr rfl)) rfl rfl ?_
        rintro _ _ ⟨rfl, rfl⟩
        refine V.brF rfl rfl (by decide) ?_
        refine V.run 20 rfl ?_
        refine V.cv rfl (c_whas0 false hB hkN (by exact hW.2.2.1 _ hkN hc.2)) rfl rfl ?_
        rintro _ _ ⟨rfl, rfl⟩
        refine V.brF rfl rfl (fun h => h i0_eq0) ?_
        refine V.run 20 rfl ?_
        refine V.cv rfl (c_setWatched hB hkN (Or.inl rfl)) rfl rfl ?_
        rintro _ _ ⟨rfl, rfl⟩
        refine V.run 20 rfl ?_
        have hcap : (Q0 ++ sq (a 0) (a 2) L k).length < 16 * B := by
          have h1 := Wg.len hp (L := 2 * k :: (Q0 ++ sq (a 0) (a 2) L k)) ⟨List.nodup_cons.mpr ⟨fun q => ?_, hqt.1⟩, fun y hy => ?_⟩
          · rw [List.length_cons] at h1; omega
          · rcases List.mem_append.mp q with h | h
            · exact hc.2 (hQL _ h)
            · have := (sq_mem.mp h).1; omega
          · rcases List.mem_cons.mp hy with rfl | h
            · exact hxG
            · exact hqt.2 y h
        refine V.cv rfl (c_addByName hB (Q0 := Q0) (T := sq (a 0) (a 2) L k) (by exact hf) hcap hkN (fun y hy => by have := (sq_mem.mp hy).1; omega) (by exact (sq_ok hwt L k (by omega)).2) (fun y hy e => by
          have hy' := sq_mem.mp hy
          have := hwt.2.2 y (2 * k) (by omega) hkN hy'.2.2.1 hc.1 e
          omega)) rfl rfl ?_
        rintro _ _ ⟨rfl, f', n', rfl, hf'⟩
        refine V.run 20 rfl ?_
        rw [nI_add]
        have ih := ih (k + 1) f' n' (by omega) (by rw [e1]; exact hf')
        rw [← wtQ_cut hc] at ih
        exact ih
      · have e1 : sq (a 0) (a 2) L (k + 1) = sq (a 0) (a 2) L k := by rw [sq, if_neg hc]
        have ih := ih (k + 1) f n (by omega) (by rw [e1]; exact hf)
        rw [← wtQ_keep hc] at ih
        by_cases h1 : a 2 (2 * k) = 1
        · have hL : 2 * k ∈ L := by
            by_cases q : 2 * k ∈ L
            · exact q
            · exact absurd ⟨h1, q⟩ hc
          refine V.cv rfl (c_isWatchedE hB hkN (y := 1) (by exact (wtQ_at (a 2) L k).trans h1) (Or.inr rfl)) rfl rfl ?_
          rintro _ _ ⟨rfl, rfl⟩
          refine V.brF rfl rfl (by decide) ?_
          refine V.run 20 rfl ?_
          refine V.cv rfl (c_whas1 false hB hkN (by exact hW.not (by omega) hL)) rfl rfl ?_
          rintro _ _ ⟨rfl, rfl⟩
          refine V.brT rfl rfl i1_ne0 ?_
          refine V.run 20 rfl ?_
          rw [nI_add]
          exact ih
        · have h0 : a 2 (2 * k) = 0 := (hwt.1 _ hkN).resolve_right h1
          refine V.cv rfl (c_isWatchedE hB hkN (y := 0) (by exact (wtQ_at (a 2) L k).trans h0) (Or.inl rfl)) rfl rfl ?_
          rintro _ _ ⟨rfl, rfl⟩
          refine V.brT rfl rfl rfl ?_
          refine V.run 20 rfl ?_
          rw [nI_add]
          exact ih
  refine eX4_queueWatched ?_
  refine V.run 20 rfl ?_
  refine V.cv rfl (c_lsizeE hq.1) rfl rfl ?_
  rintro _ _ ⟨rfl, rfl⟩
  refine V.run 20 rfl ?_
  have h := loop (16 * B) 0 (a 9) (v 6) (by omega) (by rw [sq, List.append_nil]; exact hq)
  rw [wtQ_0] at h
  exact h
theorem c_unsweepAll (hB : B ≤ 16) : Tot none kX0_unsweepAll [.ref 15] (wC B a v r) (fun o w' => o = none ∧ ∃ u, w' = wC B (setA a 11 u) v r ∧ ∀ b, b < B → u b = if a 10 b = -1 then 0 else 1) := by
  have loop : ∀ (c i : Nat) (u : Nat → Int32), i + c = B → (∀ b, b < i → u b = if a 10 b = -1 then 0 else 1) → V none 15 (fun o w' => o = none ∧ ∃ u, w' = wC B (setA a 11 u) v r ∧ ∀ b, b < B → u b = if a 10 b = -1 then 0 else 1) (0, 0) 8 [(0, .ref 15), (1, .int (nI i))] [.int (nI B), .int (nI i)] (wC B (setA a 11 u) v r) := by
    intro c
    induction c with
    | zero =>
      intro i u hi hu
      refine V.brT rfl rfl (nI_le (by omega) (by omega)) ?_
      exact V.rv rfl ⟨rfl, u, rfl, fun b hb => hu b (by omega)⟩
    | succ c ih =>
      intro i u hi hu
      have hib : i < B := by omega
      have key : ∀ z : Int32, (z = if a 10 i = -1 then 0 else 1) → ∀ b, b < i + 1 → upd u i z b = if a 10 b = -1 then 0 else 1 := by
        intro z hz b hb
        by_cases q : b = i
        · subst q; rw [upd_s]; exact hz
        · rw [upd_n q]; exact hu b (by omega)
      refine V.brF rfl rfl (nI_ge hib (by omega)) ?_
      refine V.run 20 rfl ?_
      refine V.brF rfl rfl (nI_ge hib (by omega)) ?_
      refine V.run 20 rfl ?_
      refine V.iald rfl rfl rfl hib (by omega) ?_
      refine V.run 20 rfl ?_
      refine V.br rfl rfl (fun h => ?_) (fun h => ?_)
      · refine V.run 20 rfl ?_
        refine V.zast (w' := wC B (setA a 11 (upd u i (nI 0))) v r) rfl rfl rfl hib (by omega) (Or.inl rfl) rfl ?_
        refine V.run 20 rfl ?_
        rw [nI_add]
        exact ih (i + 1) _ (by omega) (key (nI 0) (by rw [if_pos (show a 10 i = -1 from h)]; rfl))
      · refine V.run 20 rfl ?_
        refine V.zast (w' := wC B (setA a 11 (upd u i (nI 1))) v r) rfl rfl rfl hib (by omega) (Or.inr rfl) rfl ?_
        refine V.run 20 rfl ?_
        rw [nI_add]
        exact ih (i + 1) _ (by omega) (key (nI 1) (by rw [if_neg (show ¬ a 10 i = -1 from h)]; rfl))
  refine eX0_unsweepAll ?_
  refine V.run 20 rfl ?_
  exact loop B 0 (a 11) (by omega) (fun b hb => absurd hb (Nat.not_lt_zero b))
end CQ
