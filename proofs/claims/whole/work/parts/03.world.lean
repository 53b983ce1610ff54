/-! ABSTRACT WORLDS: a world is a list of cells, a reference is a place in it; 'ad' says at which address a place lies -/
abbrev xC : Type := (Bool × Nat × (Nat → Int32)) ⊕ (Nat × List Value)
abbrev xW : Type := List xC
abbrev xL : Type := List (Nat × Value)
def x_tr (ad : Nat → Nat) (v : Value) : Value := match v with
  | .ref k => .ref (ad k)
  | v => v
def x_trp (ad : Nat → Nat) (q : Nat × Value) : Nat × Value := (q.1, x_tr ad q.2)
def x_trE (cI cZ : ClassId) (ad : Nat → Nat) (e : xC) : va_E := match e with
  | .inl (z, n, f) => .inl (bif z then cZ else cI, n, .inl f)
  | .inr (ci, fs) => .inr (ci, fs.map (x_tr ad))
def x_rl (cI cZ : ClassId) (ad : Nat → Nat) : Nat → xW → va_W
  | _, [] => []
  | i, e :: w => (ad i, x_trE cI cZ ad e) :: x_rl cI cZ ad (i + 1) w
theorem x_rl_get (cI cZ : ClassId) (ad : Nat → Nat) : ∀ (w : xW) (i k : Nat), (x_rl cI cZ ad i w)[k]? = (w[k]?).map (fun e => (ad (i + k), x_trE cI cZ ad e))
  | [], i, k => by simp [x_rl]
  | e :: w, i, 0 => by simp [x_rl]
  | e :: w, i, k + 1 => by
    simp only [x_rl, List.getElem?_cons_succ]
    rw [x_rl_get cI cZ ad w (i + 1) k]
    rw [show i + 1 + k = i + (k + 1) by omega]
theorem x_rl_set (cI cZ : ClassId) (ad : Nat → Nat) (e : xC) : ∀ (w : xW) (i k : Nat), (x_rl cI cZ ad i w).set k (ad (i + k), x_trE cI cZ ad e) = x_rl cI cZ ad i (w.set k e)
  | [], i, k => by simp [x_rl]
  | e0 :: w, i, 0 => by simp [x_rl]
  | e0 :: w, i, k + 1 => by
    simp only [x_rl, List.set_cons_succ]
    rw [← x_rl_set cI cZ ad e w (i + 1) k, show i + 1 + k = i + (k + 1) by omega]
theorem x_rl_app (cI cZ : ClassId) (ad : Nat → Nat) (e : xC) : ∀ (w : xW) (i : Nat), x_rl cI cZ ad i (w ++ [e]) = x_rl cI cZ ad i w ++ [(ad (i + w.length), x_trE cI cZ ad e)]
  | [], i => by simp [x_rl]
  | e0 :: w, i => by
    simp only [x_rl, List.cons_append, List.length_cons]
    rw [x_rl_app cI cZ ad e w (i + 1), show i + 1 + w.length = i + (w.length + 1) by omega]
theorem x_rl_at {cI cZ : ClassId} {ad : Nat → Nat} {w : xW} {k : Nat} {e : xC} (h : w[k]? = some e) : (x_rl cI cZ ad 0 w)[k]? = some (ad k, x_trE cI cZ ad e) := by
  rw [x_rl_get, h]
  simp
theorem x_rl_put {cI cZ : ClassId} {ad : Nat → Nat} {w : xW} {k : Nat} {e : xC} : (x_rl cI cZ ad 0 w).set k (ad k, x_trE cI cZ ad e) = x_rl cI cZ ad 0 (w.set k e) := by
  have h := x_rl_set cI cZ ad e w 0 k
  rwa [Nat.zero_add] at h
/-- values that speak of places below n alone (999: the script) -/
def x_okv (n : Nat) (v : Value) : Bool := match v with
  | .ref k => Nat.ble (k + 1) n || Nat.beq k 999
  | _ => true
def x_okE (n : Nat) (e : xC) : Bool := match e with
  | .inl _ => true
  | .inr (_, fs) => fs.all (x_okv n)
/-- two address books say the same of the places below n -/
def x_ag (n : Nat) (ad ad' : Nat → Nat) : Prop := (∀ i, i < n → ad' i = ad i) ∧ ad' 999 = ad 999
theorem x_ag.rf (n : Nat) (ad : Nat → Nat) : x_ag n ad ad := ⟨fun _ _ => rfl, rfl⟩
theorem x_ag.tr {n n' : Nat} {a b c : Nat → Nat} (h : x_ag n a b) (h2 : x_ag n' b c) (hn : n ≤ n') : x_ag n a c := ⟨fun i hi => (h2.1 i (Nat.lt_of_lt_of_le hi hn)).trans (h.1 i hi), h2.2.trans h.2⟩
theorem x_tr_ag {n : Nat} {ad ad' : Nat → Nat} (h : x_ag n ad ad') {v : Value} (hv : x_okv n v = true) : x_tr ad' v = x_tr ad v := by
  cases v with
  | ref k =>
    simp only [x_okv, Bool.or_eq_true, Nat.ble_eq] at hv
    rcases hv with hv | hv
    · simp only [x_tr, h.1 k hv]
    · have hv := Nat.eq_of_beq_eq_true hv
      subst hv
      simp only [x_tr, h.2]
  | _ => rfl
theorem x_trL_ag {n : Nat} {ad ad' : Nat → Nat} (h : x_ag n ad ad') {vs : List Value} (hv : vs.all (x_okv n) = true) : vs.map (x_tr ad') = vs.map (x_tr ad) :=
  List.map_congr_left fun v hm => x_tr_ag h (List.all_eq_true.mp hv v hm)
theorem x_trl_ag {n : Nat} {ad ad' : Nat → Nat} (h : x_ag n ad ad') {ls : xL} (hv : ls.all (fun q => x_okv n q.2) = true) : ls.map (x_trp ad') = ls.map (x_trp ad) :=
  List.map_congr_left fun v hm => by simp only [x_trp, x_tr_ag h (List.all_eq_true.mp hv v hm)]
theorem x_rl_ag {n : Nat} {cI cZ : ClassId} {ad ad' : Nat → Nat} (h : x_ag n ad ad') : ∀ (w : xW) (i : Nat), i + w.length ≤ n → w.all (x_okE n) = true → x_rl cI cZ ad' i w = x_rl cI cZ ad i w
  | [], _, _, _ => rfl
  | e :: w, i, hn, hw => by
    simp only [List.all_cons, Bool.and_eq_true] at hw
    simp only [List.length_cons] at hn
    simp only [x_rl]
    rw [x_rl_ag h w (i + 1) (by omega) hw.2, h.1 i (by omega)]
    congr 2
    cases e with
    | inl x => rfl
    | inr x => simp only [x_trE]; rw [x_trL_ag h hw.1]
/-! locals -/
def x_c2 (v : Value) : Bool := match v with
  | .long _ => true
  | .double _ => true
  | _ => false
theorem x_beq (a b : Nat) : Nat.beq a b = (a == b) := by
  rw [Bool.eq_iff_iff]
  simp
theorem x_c2_cat (v : Value) : x_c2 v = (v.category == 2) := by cases v <;> rfl
theorem x_cat (ad : Nat → Nat) (v : Value) : (x_tr ad v).category = v.category := by cases v <;> rfl
def x_lk (i : Nat) : xL → Option Value
  | [] => none
  | q :: r => bif Nat.beq q.1 i then some q.2 else x_lk i r
theorem x_lk_mem {i : Nat} {v : Value} : ∀ {ls : xL}, x_lk i ls = some v → (i, v) ∈ ls
  | [], h => by simp [x_lk] at h
  | q :: r, h => by
    simp only [x_lk] at h
    cases hq : Nat.beq q.1 i with
    | true =>
      rw [hq, cond_true] at h
      have := Nat.eq_of_beq_eq_true hq
      cases h
      subst this
      exact List.mem_cons_self
    | false =>
      rw [hq, cond_false] at h
      exact List.mem_cons_of_mem _ (x_lk_mem h)
def x_keep (i : Nat) (c : Bool) (q : Nat × Value) : Bool := !(Nat.beq q.1 i) && !(Nat.beq (q.1 + 1) i && x_c2 q.2) && !(c && Nat.beq q.1 (i + 1))
def x_ins (i : Nat) (v : Value) : xL → xL
  | [] => [(i, v)]
  | q :: r => bif Nat.ble q.1 i then q :: x_ins i v r else (i, v) :: q :: r
def x_st (i : Nat) (v : Value) (ls : xL) : xL := x_ins i v (ls.filter (x_keep i (x_c2 v)))
theorem x_ins_mem {i : Nat} {v : Value} {q : Nat × Value} : ∀ {ls : xL}, q ∈ x_ins i v ls → q = (i, v) ∨ q ∈ ls
  | [], h => by simp [x_ins] at h; exact Or.inl h
  | p :: r, h => by
    simp only [x_ins] at h
    cases hq : Nat.ble p.1 i with
    | true =>
      rw [hq, cond_true] at h
      rcases List.mem_cons.mp h with h | h
      · exact Or.inr (by rw [h]; exact List.mem_cons_self)
      · rcases x_ins_mem h with h | h
        · exact Or.inl h
        · exact Or.inr (List.mem_cons_of_mem _ h)
    | false =>
      rw [hq, cond_false] at h
      rcases List.mem_cons.mp h with h | h
      · exact Or.inl h
      · exact Or.inr h
def x_nf {α β : Type} : List α → (List α → β) → β
  | [], c => c []
  | a :: l, c => x_nf l (fun l' => c (a :: l'))
theorem x_nf_eq {α β : Type} : ∀ (l : List α) (c : List α → β), x_nf l c = c l
  | [], c => rfl
  | a :: l, c => by rw [x_nf, x_nf_eq l]
/-- storing a value of one word -/
theorem x_store1 {ad : Nat → Nat} {La La' : Array Slot} {nL i : Nat} {v : Value} {ls : xL} (hc : x_c2 v = false) (h : lv_has La' nL ((i, x_tr ad v) :: (ls.map (x_trp ad)).filter (fun q => !(q.1 == i) && !(q.1 + 1 == i && q.2.category == 2)))) : lv_has La' nL ((x_st i v ls).map (x_trp ad)) := by
  refine ⟨h.1, h.2.1, fun q hq => h.2.2 q ?_⟩
  obtain ⟨p, hp, rfl⟩ := List.mem_map.mp hq
  rcases x_ins_mem hp with rfl | hp
  · exact List.mem_cons_self
  · refine List.mem_cons_of_mem _ (List.mem_filter.mpr ⟨List.mem_map.mpr ⟨p, (List.mem_filter.mp hp).1, rfl⟩, ?_⟩)
    have hk := (List.mem_filter.mp hp).2
    simp only [x_keep, hc, Bool.false_and, Bool.not_false, Bool.and_true, x_c2_cat, x_beq] at hk
    simp only [x_trp, x_cat]
    exact hk
theorem x_store2 {ad : Nat → Nat} {La La' : Array Slot} {nL i : Nat} {v : Value} {ls : xL} (hc : x_c2 v = true) (h : lv_has La' nL ((i, x_tr ad v) :: (ls.map (x_trp ad)).filter (fun q => !(q.1 == i) && (!(q.1 == i + 1) && !(q.1 + 1 == i && q.2.category == 2))))) : lv_has La' nL ((x_st i v ls).map (x_trp ad)) := by
  refine ⟨h.1, h.2.1, fun q hq => h.2.2 q ?_⟩
  obtain ⟨p, hp, rfl⟩ := List.mem_map.mp hq
  rcases x_ins_mem hp with rfl | hp
  · exact List.mem_cons_self
  · refine List.mem_cons_of_mem _ (List.mem_filter.mpr ⟨List.mem_map.mpr ⟨p, (List.mem_filter.mp hp).1, rfl⟩, ?_⟩)
    have hk := (List.mem_filter.mp hp).2
    simp only [x_keep, hc, Bool.true_and, x_c2_cat, x_beq, Bool.and_eq_true] at hk
    simp only [x_trp, x_cat, Bool.and_eq_true]
    exact ⟨hk.1.1, hk.2, hk.1.2⟩
theorem x_has_at {ad : Nat → Nat} {La : Array Slot} {nL i : Nat} {v : Value} {ls : xL} (h : lv_has La nL (ls.map (x_trp ad))) (hl : x_lk i ls = some v) : La[i]? = some (.val (x_tr ad v)) :=
  h.2.2 (i, x_tr ad v) (List.mem_map.mpr ⟨(i, v), x_lk_mem hl, rfl⟩)
theorem x_args_tr (ad : Nat → Nat) : ∀ (vs : List Value) (i : Nat), lv_args i (vs.map (x_tr ad)) = (lv_args i vs).map (x_trp ad)
  | [], i => rfl
  | v :: vs, i => by
    simp only [List.map_cons, lv_args, x_cat]
    rw [x_args_tr ad vs]
    rfl
