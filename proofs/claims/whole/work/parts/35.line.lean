/-! the queue: by names -/
def insN (nm : Nat → Int32) (x : Nat) : List Nat → List Nat
  | [] => [x]
  | y :: r => if nm y < nm x then y :: insN nm x r else x :: y :: r
theorem insN_mem {nm : Nat → Int32} {x z : Nat} : ∀ {T : List Nat}, z ∈ insN nm x T ↔ z = x ∨ z ∈ T
  | [] => by simp [insN]
  | y :: r => by
    unfold insN
    split
    · rw [List.mem_cons, insN_mem, List.mem_cons]
      constructor
      · rintro (h | h | h)
        · exact Or.inr (Or.inl h)
        · exact Or.inl h
        · exact Or.inr (Or.inr h)
      · rintro (h | h | h)
        · exact Or.inr (Or.inl h)
        · exact Or.inl h
        · exact Or.inr (Or.inr h)
    · simp
theorem insN_split {nm : Nat → Int32} {x : Nat} {T2 : List Nat} (h2 : ∀ y ∈ T2, ¬ nm y < nm x) : ∀ {T1 : List Nat}, (∀ y ∈ T1, nm y < nm x) → insN nm x (T1 ++ T2) = T1 ++ x :: T2
  | [], _ => by
    cases T2 with
    | nil => rfl
    | cons y r => simp only [List.nil_append, insN, if_neg (h2 y List.mem_cons_self)]
  | y :: r, h1 => by
    simp only [List.cons_append, insN, if_pos (h1 y List.mem_cons_self)]
    rw [insN_split h2 (fun z hz => h1 z (List.mem_cons_of_mem _ hz))]
theorem insN_len {nm : Nat → Int32} {x : Nat} : ∀ {T : List Nat}, (insN nm x T).length = T.length + 1
  | [] => rfl
  | y :: r => by
    unfold insN
    split
    · simp [insN_len]
    · simp
theorem insN_nodup {nm : Nat → Int32} {x : Nat} : ∀ {T : List Nat}, T.Nodup → x ∉ T → (insN nm x T).Nodup
  | [], _, _ => by simp [insN]
  | y :: r, h, hx => by
    rw [List.nodup_cons] at h
    simp only [List.mem_cons, not_or] at hx
    unfold insN
    split
    · rw [List.nodup_cons]
      refine ⟨fun q => ?_, insN_nodup h.2 hx.2⟩
      rcases insN_mem.mp q with e | e
      · exact hx.1 e.symm
      · exact h.1 e
    · rw [List.nodup_cons, List.nodup_cons]
      exact ⟨by simp [hx.1, hx.2], h⟩
/-- strictly by names -/
def srt (nm : Nat → Int32) (T : List Nat) : Prop := T.Pairwise (fun x y => nm x < nm y)
theorem i32_tr {x y z : Int32} (h1 : x < y) (h2 : y < z) : x < z := by
  rw [Int32.lt_iff_toInt_lt] at *
  omega
theorem i32_tl {x y z : Int32} (h1 : x < y) (h2 : y ≤ z) : x < z := by
  rw [Int32.lt_iff_toInt_lt] at *
  rw [Int32.le_iff_toInt_le] at h2
  omega
theorem i32_lt {x y : Int32} (h1 : x ≤ y) (h2 : x ≠ y) : x < y := by
  rw [Int32.lt_iff_toInt_lt]
  rw [Int32.le_iff_toInt_le] at h1
  have : x.toInt ≠ y.toInt := fun e => h2 (Int32.toInt_inj.mp e)
  omega
theorem i32_nle {x y : Int32} (h : ¬ x ≤ y) : y < x := Int32.not_le.mp h
theorem i32_asy {x y : Int32} (h : x < y) : ¬ y < x := fun q => by
  rw [Int32.lt_iff_toInt_lt] at *
  omega
theorem insN_srt {nm : Nat → Int32} {x : Nat} : ∀ {T : List Nat}, srt nm T → (∀ y ∈ T, nm y ≠ nm x) → srt nm (insN nm x T)
  | [], _, _ => by simp [insN, srt]
  | y :: r, h, hd => by
    unfold srt at h ⊢
    rw [List.pairwise_cons] at h
    unfold insN
    split
    · rename_i hlt
      rw [List.pairwise_cons]
      refine ⟨fun z hz => ?_, insN_srt h.2 (fun z hz => hd z (List.mem_cons_of_mem _ hz))⟩
      rcases insN_mem.mp hz with rfl | hz
      · exact hlt
      · exact h.1 z hz
    · rename_i hlt
      have hxy : nm x < nm y := i32_lt (Int32.not_lt.mp hlt) (fun e => hd y List.mem_cons_self e.symm)
      rw [List.pairwise_cons, List.pairwise_cons]
      refine ⟨fun z hz => ?_, h⟩
      rcases List.mem_cons.mp hz with rfl | hz
      · exact hxy
      · exact i32_tr hxy (h.1 z hz)
section CL
variable {B : Nat} {a : Nat → Nat → Int32} {v : Nat → Int32} {r : xW}
theorem c_addByName (hB : B ≤ 16) {Q0 T : List Nat} {x : Nat} (hq : Ql (Q0 ++ T) (a 9) (v 6)) (hlen : (Q0 ++ T).length < 16 * B) (hx : x < 32 * B) (hT : ∀ y ∈ T, y < 32 * B) (hs : srt (a 0) T) (hd : ∀ y ∈ T, a 0 y ≠ a 0 x) :
    Tot none kX1_addByName [.ref 13, .int (nI x), .int (nI Q0.length), .ref 1] (wC B a v r) (fun o w' => o = none ∧ ∃ f n, w' = wC B (setA a 9 f) (uV v 6 n) r ∧ Ql (Q0 ++ insN (a 0) x T) f n) := by
  have hlq : Q0.length + T.length < 16 * B := by rwa [List.length_append] at hlen
  have hv6 : v 6 = nI (Q0.length + T.length) := by rw [hq.1, List.length_append]
  have fin : ∀ (c : Nat) (f : Nat → Int32), c ≤ T.length → (∀ k y, (Q0 ++ T.take c)[k]? = some y → f k = nI y) → (∀ k y, (T.drop c)[k]? = some y → f (Q0.length + c + 1 + k) = nI y) → (∀ y ∈ T.take c, a 0 y < a 0 x) → (∀ y ∈ T.drop c, a 0 x < a 0 y) →
      V none 27 (fun o w' => o = none ∧ ∃ f n, w' = wC B (setA a 9 f) (uV v 6 n) r ∧ Ql (Q0 ++ insN (a 0) x T) f n) (0, 0) 72 [(0, .ref 13), (1, .int (nI x)), (2, .int (nI Q0.length)), (3, .ref 1), (4, .int (nI (Q0.length + c)))] [] (wC B (setA a 9 f) v r) := by
    intro c f hc h1 h2 h3 h4
    refine V.run 20 rfl ?_
    refine V.iast (w' := wC B (setA a 9 (upd f (Q0.length + c) (nI x))) v r) rfl rfl rfl (show Q0.length + c < 16 * B by omega) (by omega) rfl ?_
    refine V.run 20 rfl ?_
    refine V.puti (w' := wC B (setA a 9 (upd f (Q0.length + c) (nI x))) (uV v 6 (v 6 + nI 1)) r) rfl rfl rfl ?_
    refine V.rv rfl ⟨rfl, _, _, rfl, ?_, ?_⟩
    · rw [hv6, nI_add, List.length_append, insN_len, Nat.add_assoc]
    · have e : insN (a 0) x T = T.take c ++ x :: T.drop c := by
        conv => lhs; rw [← List.take_append_drop c T]
        exact insN_split (fun y hy => i32_asy (h4 y hy)) h3
      rw [e, ← List.append_assoc]
      have hl : (Q0 ++ T.take c).length = Q0.length + c := by rw [List.length_append, List.length_take]; omega
      intro i z hz
      by_cases q1 : i < Q0.length + c
      · rw [List.getElem?_append_left (by omega)] at hz
        rw [upd_n (by omega)]
        exact h1 i z hz
      · rw [List.getElem?_append_right (by omega), hl] at hz
        by_cases q2 : i = Q0.length + c
        · subst q2
          rw [Nat.sub_self, List.getElem?_cons_zero] at hz
          cases hz
          exact upd_s
        · obtain ⟨k, hk⟩ : ∃ k, i = Q0.length + c + 1 + k := ⟨i - (Q0.length + c + 1), by omega⟩
          subst hk
          rw [show Q0.length + c + 1 + k - (Q0.length + c) = k + 1 by omega, List.getElem?_cons_succ] at hz
          rw [upd_n (by omega)]
          exact h2 k z hz
  have loop : ∀ (c : Nat) (f : Nat → Int32), c ≤ T.length → (∀ k y, (Q0 ++ T.take c)[k]? = some y → f k = nI y) → (∀ k y, (T.drop c)[k]? = some y → f (Q0.length + c + 1 + k) = nI y) → (∀ y ∈ T.drop c, a 0 x < a 0 y) → ∀ xi : Int32, xi = nI (Q0.length + c) →
      V none 27 (fun o w' => o = none ∧ ∃ f n, w' = wC B (setA a 9 f) (uV v 6 n) r ∧ Ql (Q0 ++ insN (a 0) x T) f n) (0, 0) 26 [(0, .ref 13), (1, .int (nI x)), (2, .int (nI Q0.length)), (3, .ref 1), (4, .int xi)] [.int (nI Q0.length), .int xi] (wC B (setA a 9 f) v r) := by
    intro c
    induction c with
    | zero =>
      intro f hc h1 h2 h4 xi hxi
      subst hxi
      refine V.brT rfl rfl (nI_le (by omega) (by omega)) ?_
      exact fin 0 f hc h1 h2 (fun y hy => by simp at hy) h4
    | succ c ih =>
      intro f hc h1 h2 h4 xi hxi
      subst hxi
      have hlt : c < T.length := by omega
      obtain ⟨y, hy⟩ : ∃ y, T[c]? = some y := ⟨_, List.getElem?_eq_getElem hlt⟩
      have hyT := List.mem_of_getElem? hy
      have et : T.take (c + 1) = T.take c ++ [y] := by rw [List.take_add_one, hy]; rfl
      have ed : T.drop c = y :: T.drop (c + 1) := by
        obtain ⟨g1, g2⟩ := List.getElem?_eq_some_iff.mp hy
        rw [← g2]
        exact List.drop_eq_getElem_cons g1
      have hl : (Q0 ++ T.take c).length = Q0.length + c := by rw [List.length_append, List.length_take]; omega
      have hfy : f (Q0.length + c) = nI y := by
        refine h1 _ y ?_
        rw [et, ← List.append_assoc, List.getElem?_append_right (by omega), hl, Nat.sub_self]
        rfl
      refine V.brF rfl rfl (nI_ge (show Q0.length < Q0.length + (c + 1) by omega) (by omega)) ?_
      refine V.run 20 rfl ?_
      refine V.ialE rfl rfl (j := Q0.length + c) (pk_sub (a := Q0.length + (c + 1)) (b := 1) (by omega)) (show Q0.length + c < 16 * B by omega) (by omega) hfy ?_
      refine V.cv rfl (c_nameAt hB (hT y hyT)) rfl rfl ?_
      rintro _ _ ⟨rfl, rfl⟩
      refine V.run 20 rfl ?_
      refine V.cv rfl (c_nameAt hB hx) rfl rfl ?_
      rintro _ _ ⟨rfl, rfl⟩
      refine V.br rfl rfl (fun h => ?_) (fun h => ?_)
      · refine fin (c + 1) f hc h1 h2 (fun z hz => ?_) h4
        have hyx : a 0 y < a 0 x := i32_lt h (hd y hyT)
        rw [et] at hz
        rcases List.mem_append.mp hz with q | q
        · have hs' := hs
          unfold srt at hs'
          rw [← List.take_append_drop c T, ed, List.pairwise_append] at hs'
          exact i32_tr (hs'.2.2 z q y List.mem_cons_self) hyx
        · simp at q; rw [q]; exact hyx
      · refine V.run 20 rfl ?_
        refine V.ialE rfl rfl (j := Q0.length + c) (pk_sub (a := Q0.length + (c + 1)) (b := 1) (by omega)) (show Q0.length + c < 16 * B by omega) (by omega) hfy ?_
        refine V.iast (w' := wC B (setA a 9 (upd f (Q0.length + (c + 1)) (nI y))) v r) rfl rfl rfl (show Q0.length + (c + 1) < 16 * B by omega) (by omega) rfl ?_
        refine V.run 20 rfl ?_
        refine ih (upd f (Q0.length + (c + 1)) (nI y)) (by omega) (fun k z hz => ?_) (fun k z hz => ?_) (fun z hz => ?_) _ (pk_m1 (Q0.length + c))
        · have hk := (List.getElem?_eq_some_iff.mp hz).1
          rw [upd_n (by omega)]
          refine h1 k z ?_
          rw [et, ← List.append_assoc, List.getElem?_append_left (by omega)]
          exact hz
        · rw [ed] at hz
          cases k with
          | zero =>
            rw [List.getElem?_cons_zero] at hz
            cases hz
            exact upd_s
          | succ k =>
            rw [List.getElem?_cons_succ] at hz
            rw [upd_n (by omega), ← h2 k z hz]
            congr 1
            omega
        · rw [ed] at hz
          rcases List.mem_cons.mp hz with rfl | hz
          · exact i32_nle h
          · exact h4 z hz
  refine eX1_addByName ?_
  refine V.run 20 rfl ?_
  refine V.brF rfl rfl (fun h => nI_ge hlq (by omega) (hv6 ▸ h)) ?_
  refine V.run 20 rfl ?_
  refine V.brT rfl rfl (nI_pos' (by omega)) ?_
  refine V.run 20 rfl ?_
  refine loop T.length (a 9) (Nat.le_refl _) (fun k y hk => ?_) (fun k y hk => ?_) (fun y hy => ?_) _ hv6
  · rw [List.take_length] at hk
    exact hq.2 k y hk
  · rw [List.drop_length] at hk
    simp at hk
  · rw [List.drop_length] at hy
    simp at hy
theorem c_takeFirst0 (h : v 6 = nI 0) : Tot none kX1_takeFirst [.ref 13] (wC B a v r) (rI (-1) (wC B a v r)) := by
  refine eX1_takeFirst ?_
  refine V.run 20 rfl ?_
  refine V.brT rfl rfl (by rw [h]; decide) ?_
  refine V.run 20 rfl ?_
  exact V.ri rfl ⟨rfl, rfl⟩
theorem c_takeFirst (hB : B ≤ 16) {x : Nat} {Qs : List Nat} (hq : Ql (x :: Qs) (a 9) (v 6)) (hl : (x :: Qs).length ≤ 16 * B) :
    Tot none kX1_takeFirst [.ref 13] (wC B a v r) (fun o w' => o = some (.int (nI x)) ∧ ∃ f n, w' = wC B (setA a 9 f) (uV v 6 n) r ∧ Ql Qs f n) := by
  have hl' : Qs.length + 1 ≤ 16 * B := by rwa [List.length_cons] at hl
  have hv6 : v 6 = nI (Qs.length + 1) := by rw [hq.1, List.length_cons]
  have loop : ∀ (c i : Nat) (f : Nat → Int32), i + c = Qs.length → (∀ k y, Qs[k]? = some y → (k < i → f k = nI y) ∧ (i ≤ k → f (k + 1) = nI y)) →
      V none 28 (fun o w' => o = some (.int (nI x)) ∧ ∃ f n, w' = wC B (setA a 9 f) (uV v 6 n) r ∧ Ql Qs f n) (0, 0) 31 [(0, .ref 13), (1, .int (nI x)), (2, .int (nI (1 + i)))] [.int (v 6), .int (nI (1 + i))] (wC B (setA a 9 f) v r) := by
    intro c
    induction c with
    | zero =>
      intro i f hi hf
      refine V.brT rfl rfl (le_eq hv6 (by omega) (by omega)) ?_
      refine V.run 20 rfl ?_
      refine V.puti (w' := wC B (setA a 9 f) (uV v 6 (v 6 - nI 1)) r) rfl rfl rfl ?_
      refine V.run 20 rfl ?_
      refine V.ri rfl ⟨rfl, f, _, rfl, ?_, fun k y hk => ?_⟩
      · rw [hv6]
        exact pk_sub (a := Qs.length + 1) (b := 1) (by omega)
      · exact (hf k y hk).1 (by have := (List.getElem?_eq_some_iff.mp hk).1; omega)
    | succ c ih =>
      intro i f hi hf
      obtain ⟨y, hy⟩ : ∃ y, Qs[i]? = some y := ⟨_, List.getElem?_eq_getElem (by omega)⟩
      refine V.brF rfl rfl (fun h => nI_ge (show 1 + i < Qs.length + 1 by omega) (by omega) (hv6 ▸ h)) ?_
      refine V.run 20 rfl ?_
      refine V.brF rfl rfl (nI_ge (show 1 + i < 16 * B by omega) (by omega)) ?_
      refine V.run 20 rfl ?_
      refine V.ialE rfl rfl (j := i + 1) (by rw [Nat.add_comm]) (show i + 1 < 16 * B by omega) (by omega) ((hf i y hy).2 (Nat.le_refl i)) ?_
      refine V.iast (j := i) (w' := wC B (setA a 9 (upd f i (nI y))) v r) rfl rfl (by rw [pk_sub (by omega)]; congr 1; omega) (show i < 16 * B by omega) (by omega) rfl ?_
      refine V.run 20 rfl ?_
      rw [nI_add]
      refine ih (i + 1) (upd f i (nI y)) (by omega) (fun k z hk => ⟨fun h => ?_, fun h => ?_⟩)
      · by_cases q : k = i
        · subst q
          rw [upd_s]
          rw [hy] at hk
          cases hk
          rfl
        · rw [upd_n q]
          exact (hf k z hk).1 (by omega)
      · rw [upd_n (by omega)]
        exact (hf k z hk).2 (by omega)
  refine eX1_takeFirst ?_
  refine V.run 20 rfl ?_
  refine V.brF rfl rfl (fun h => nI_ge (show 0 < Qs.length + 1 by omega) (by omega) (hv6 ▸ h)) ?_
  refine V.run 20 rfl ?_
  refine V.brT rfl rfl (nI_ne (a := 16 * B) (b := 0) (by omega) (by omega) (by omega)) ?_
  refine V.run 20 rfl ?_
  refine V.ialE rfl rfl (j := 0) rfl (show 0 < 16 * B by omega) (by omega) (hq.2 0 x rfl) ?_
  refine V.run 20 rfl ?_
  exact loop Qs.length 0 (a 9) (by omega) (fun k y hk => ⟨fun h => absurd h (Nat.not_lt_zero k), fun _ => hq.2 (k + 1) y hk⟩)
end CL
