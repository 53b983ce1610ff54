/-! rules of making -/
def x_adn (ad : Nat → Nat) (p q : Nat) : Nat → Nat := fun i => if i = p then q else ad i
theorem x_adn_ag {ad : Nat → Nat} {p q : Nat} (hp : p < 999) : x_ag p ad (x_adn ad p q) := ⟨fun i hi => by unfold x_adn; rw [if_neg (by omega)], by unfold x_adn; rw [if_neg (by omega)]⟩
theorem x_ckl (ci : Nat) (h : ci < 6) : Cond.instantiable (xc_n ci) (xc_N ci) ∈ xG ∧ Cond.initialized (xc_n ci) ∈ xG := by
  match ci, h with
  | 0, _ => exact x_ck_0
  | 1, _ => exact x_ck_1
  | 2, _ => exact x_ck_2
  | 3, _ => exact x_ck_3
  | 4, _ => exact x_ck_4
  | 5, _ => exact x_ck_5
  | n + 6, h => omega
section VA
variable {X : Option (Nat × (Nat → Int32))} {k : Nat} {Q : Option Value → xW → Prop} {n n' : Nat × Nat} {pc nx a b : Nat} {ls : xL} {st : List Value} {w w' : xW}
theorem x_G.grow {D : va_G} {cI cZ : ClassId} {A : Nat → Prop} {s : State} {ad0 : Nat → Nat} {n0 : Nat} {ad : Nat → Nat} {H H1 : Heap} {locs : List Loc} {e : xC} {e' : va_E} {q : Nat} (hG : x_G X k D cI cZ A s ad0 n0 ad w H locs) (ha : xm_a k = true) (hp : w.length < 999) (hw : w.all (x_okE w.length) = true) (he : x_trE cI cZ (x_adn ad w.length q) e = e')
    (h1 : va_P D xcl (x_rl cI cZ ad 0 w ++ [(q, e')]) H1) (h2 : va_D A (x_rl cI cZ ad 0 w ++ [(q, e')])) (h3 : va_S A s.heap H1 locs) : x_G X k D cI cZ A s ad0 n0 (x_adn ad w.length q) (w ++ [e]) H1 locs := by
  have hag : x_ag w.length ad (x_adn ad w.length q) := x_adn_ag hp
  have er : x_rl cI cZ (x_adn ad w.length q) 0 (w ++ [e]) = x_rl cI cZ ad 0 w ++ [(q, e')] := by
    rw [x_rl_app, x_rl_ag hag w 0 (by omega) hw, he, Nat.zero_add]
    congr 3
    unfold x_adn
    rw [if_pos rfl]
  obtain ⟨g1, g2, g3, g4, g5, g6, g7⟩ := hG
  refine ⟨by rw [er]; exact h1, by rw [er]; exact h2, h3, fun h => absurd (h.symm.trans ha) (by decide), g5.tr hag g6, by rw [List.length_append]; omega, ?_⟩
  cases X with
  | none => trivial
  | some z =>
    have e9 := hag.2
    show va_X (x_adn ad w.length q 999) _ _ _ _ ∧ x_adn ad w.length q 999 < _ ∧ ¬ A (x_adn ad w.length q 999)
    rw [e9]
    exact g7
/-- a new object -/
theorem V.new {idx ci : Nat} {fs : List Value} (hd : xm_i k pc = some (.new idx, nx, ci, b)) (hf : (List.range (xc_N ci)).map (fun j => defaultValue (xc_t ci j)) = fs) (hft : ∀ ad : Nat → Nat, fs.map (x_tr ad) = fs) (hok : (ls.all (fun q => x_okv w.length q.2) && (st.all (x_okv w.length) && w.all (x_okE w.length))) = true) (hw' : w ++ [.inr (ci, fs)] = w') (hn : n.1 + 1 ≤ n'.1 ∧ n.2 + xc_N ci ≤ n'.2) (hn' : n'.1 ≤ (xm_R k).cells ∧ n'.2 ≤ (xm_R k).slots)
    (kk : V X k Q n' nx ls (.ref w.length :: st) w') (ha : xm_a k = true := by rfl) (hl : Nat.ble (w.length + 1) 999 = true := by rfl) : V X k Q n pc ls st w := by
  intro p l e s m args below meth c D cI cZ A QQ ad0 n0 C hR ad H locs La hG hll
  obtain ⟨hdc, hnx, hex⟩ := C.2.2.2.2.2.2.2.2.2 pc _ hd
  dsimp only at hdc hnx hex
  have hnx : nx = pc + 3 := hnx
  subst hnx
  simp only [Bool.and_eq_true] at hok
  obtain ⟨ok1, ok2, ok3⟩ := hok
  have hlt : w.length < 999 := Nat.le_of_ble_eq_true hl
  have hts := C.2.2.2.2.1
  have h6 : ci < 6 := by
    have : ∀ e ∈ x_nw, e.2.2 < 6 := by decide
    exact this _ hex
  subst hw'
  refine va_new (D := D) (ci := ci) (C := xc_n ci) (T := xc_T ci) (N := xc_N ci) (fs := fs) C.1 C.2.1 hts (x_us ci h6) (xc_t ci) (x_tyo ci h6) C.2.2.2.1 (hts _ (x_nw_ok _ hex)) (hts _ (x_ckl ci h6).1) (hts _ (x_ckl ci h6).2) C.2.2.2.2.2.1 hG.1 hG.2.1 hG.2.2.1 C.2.2.2.2.2.2.1 (x_xcl h6) (fun j hj => ?_) (by omega) (by omega) hdc (fun q H1 h1 h2 h3 => ?_)
  · subst hf
    unfold vp_V
    rw [List.getD_eq_getElem?_getD, List.getElem?_map, List.getElem?_range hj]
    rfl
  · have hag : x_ag w.length ad (x_adn ad w.length q) := x_adn_ag hlt
    have hG' := hG.grow (e := .inr (ci, fs)) (q := q) ha hlt ok3 (by show Sum.inr (ci, fs.map (x_tr _)) = _; rw [hft]) h1 h2 h3
    have hl' : lv_has La (xm_L k) (ls.map (x_trp (x_adn ad w.length q))) := by rw [x_trl_ag hag ok1]; exact hll
    have K := kk p l e s m args below meth c D cI cZ A QQ ad0 n0 C hR _ H1 locs La hG' hl'
    rw [List.map_cons, x_trL_ag hag ok2] at K
    have eq : x_tr (x_adn ad w.length q) (.ref w.length) = .ref q := by
      show Value.ref (x_adn ad w.length q w.length) = _
      unfold x_adn
      rw [if_pos rfl]
    rw [eq] at K
    exact W.widen hn.1 hn.2 K
/-- a new array of ints -/
theorem V.newI {N : Nat} {i : Int32} (hd : xm_i k pc = some (.newarray .int, nx, a, b)) (hi : i = nI N) (hN : N ≤ 512) (hok : (ls.all (fun q => x_okv w.length q.2) && (st.all (x_okv w.length) && w.all (x_okE w.length))) = true) (hw' : w ++ [.inl (false, N, fun _ => 0)] = w') (hn : n.1 + 1 ≤ n'.1 ∧ n.2 + N ≤ n'.2) (hn' : n'.1 ≤ (xm_R k).cells ∧ n'.2 ≤ (xm_R k).slots)
    (kk : V X k Q n' nx ls (.ref w.length :: st) w') (ha : xm_a k = true := by rfl) (hl : Nat.ble (w.length + 1) 999 = true := by rfl) : V X k Q n pc ls (.int i :: st) w := by
  intro p l e s m args below meth c D cI cZ A QQ ad0 n0 C hR ad H locs La hG hll
  obtain ⟨hdc, hnx, hex⟩ := C.2.2.2.2.2.2.2.2.2 pc _ hd
  dsimp only at hdc hnx hex
  have hnx : nx = pc + 2 := hnx
  subst hnx
  simp only [Bool.and_eq_true] at hok
  obtain ⟨ok1, ok2, ok3⟩ := hok
  have hlt : w.length < 999 := Nat.le_of_ble_eq_true hl
  have hts := C.2.2.2.2.1
  subst hw'
  subst hi
  refine va_newa (D := D) (a0 := (N, .inl (fun _ => 0))) (ty := .int) (atype := .int) C.1 C.2.1 (hts _ x_arr.1) rfl C.2.2.2.2.2.1 hG.1 hG.2.1 hG.2.2.1 C.2.2.2.2.2.2.1 (fun cA => rfl) (nI_pos (by omega)) (nI_clamp (by omega)) (by show N * 4 ≤ _; omega) (by omega) (by omega) hdc (fun q cA H1 hK h1 h2 h3 => ?_)
  have e1 : cA = cI := by
    have r1 : va_RA s cA .int := (hK.2 2 _ rfl).2
    have r2 : va_RA s cI .int := (C.2.2.2.2.2.1.2 0 _ rfl).2
    exact Option.some.inj (Eq.trans (Eq.symm r1) r2)
  subst e1
  have hag : x_ag w.length ad (x_adn ad w.length q) := x_adn_ag hlt
  have hG' := hG.grow (e := .inl (false, N, fun _ => 0)) (q := q) ha hlt ok3 rfl h1 h2 h3
  have hl' : lv_has La (xm_L k) (ls.map (x_trp (x_adn ad w.length q))) := by rw [x_trl_ag hag ok1]; exact hll
  have K := kk p l e s m args below meth c D cA cZ A QQ ad0 n0 C hR _ H1 locs La hG' hl'
  rw [List.map_cons, x_trL_ag hag ok2] at K
  have eq : x_tr (x_adn ad w.length q) (.ref w.length) = .ref q := by
    show Value.ref (x_adn ad w.length q w.length) = _
    unfold x_adn
    rw [if_pos rfl]
  rw [eq] at K
  exact W.widen hn.1 hn.2 K
theorem V.newZ {N : Nat} {i : Int32} (hd : xm_i k pc = some (.newarray .boolean, nx, a, b)) (hi : i = nI N) (hN : N ≤ 512) (hok : (ls.all (fun q => x_okv w.length q.2) && (st.all (x_okv w.length) && w.all (x_okE w.length))) = true) (hw' : w ++ [.inl (true, N, fun _ => 0)] = w') (hn : n.1 + 1 ≤ n'.1 ∧ n.2 + N ≤ n'.2) (hn' : n'.1 ≤ (xm_R k).cells ∧ n'.2 ≤ (xm_R k).slots)
    (kk : V X k Q n' nx ls (.ref w.length :: st) w') (ha : xm_a k = true := by rfl) (hl : Nat.ble (w.length + 1) 999 = true := by rfl) : V X k Q n pc ls (.int i :: st) w := by
  intro p l e s m args below meth c D cI cZ A QQ ad0 n0 C hR ad H locs La hG hll
  obtain ⟨hdc, hnx, hex⟩ := C.2.2.2.2.2.2.2.2.2 pc _ hd
  dsimp only at hdc hnx hex
  have hnx : nx = pc + 2 := hnx
  subst hnx
  simp only [Bool.and_eq_true] at hok
  obtain ⟨ok1, ok2, ok3⟩ := hok
  have hlt : w.length < 999 := Nat.le_of_ble_eq_true hl
  have hts := C.2.2.2.2.1
  subst hw'
  subst hi
  refine va_newa (D := D) (a0 := (N, .inl (fun _ => 0))) (ty := .boolean) (atype := .boolean) C.1 C.2.1 (hts _ x_arr.2) rfl C.2.2.2.2.2.1 hG.1 hG.2.1 hG.2.2.1 C.2.2.2.2.2.2.1 (fun cA => rfl) (nI_pos (by omega)) (nI_clamp (by omega)) (by show N * 1 ≤ _; omega) (by omega) (by omega) hdc (fun q cA H1 hK h1 h2 h3 => ?_)
  have e1 : cA = cZ := by
    have r1 : va_RA s cA .boolean := (hK.2 2 _ rfl).2
    have r2 : va_RA s cZ .boolean := (C.2.2.2.2.2.1.2 1 _ rfl).2
    exact Option.some.inj (Eq.trans (Eq.symm r1) r2)
  subst e1
  have hag : x_ag w.length ad (x_adn ad w.length q) := x_adn_ag hlt
  have hG' := hG.grow (e := .inl (true, N, fun _ => 0)) (q := q) ha hlt ok3 rfl h1 h2 h3
  have hl' : lv_has La (xm_L k) (ls.map (x_trp (x_adn ad w.length q))) := by rw [x_trl_ag hag ok1]; exact hll
  have K := kk p l e s m args below meth c D cI cA A QQ ad0 n0 C hR _ H1 locs La hG' hl'
  rw [List.map_cons, x_trL_ag hag ok2] at K
  have eq : x_tr (x_adn ad w.length q) (.ref w.length) = .ref q := by
    show Value.ref (x_adn ad w.length q w.length) = _
    unfold x_adn
    rw [if_pos rfl]
  rw [eq] at K
  exact W.widen hn.1 hn.2 K
/-- a put of a final field, in a constructor -/
theorem V.putF {o ci : Nat} {fs : List Value} {idx : Nat} {v : Value} (hd : xm_i k pc = some (.putfield idx, nx, ci, b)) (hw : w[o]? = some (.inr (ci, fs))) (hw' : w.set o (.inr (ci, fs.set b v)) = w') (kk : V X k Q n nx ls st w') (hv : ∀ ad : Nat → Nat, narrow (xc_t ci b) (x_tr ad v) = x_tr ad v ∧ fits (xc_t ci b) (x_tr ad v) = true := by exact fun _ => ⟨rfl, rfl⟩) (hb : Nat.ble (b + 1) fs.length = true := by rfl) (hfin : (xc_T ci b).2.2.2 = true := by rfl) (hdecl : (xc_T ci b).1 = xm_o k := by rfl) (hni : xm_n k = true := by rfl) : V X k Q n pc ls (v :: .ref o :: st) w := by
  intro p l e s m args below meth c D cI cZ A QQ ad0 n0 C hR ad H locs La hG hl
  obtain ⟨hdc, hnx, hex⟩ := C.2.2.2.2.2.2.2.2.2 pc _ hd
  dsimp only at hdc hnx hex
  have hnx : nx = pc + 3 := hnx
  subst hnx
  obtain ⟨hcl, hlt, hlink⟩ := x_fl_ok _ hex
  have h6 := x_cl6 hcl
  refine va_putF (D := D) (ci := ci) (v := x_tr ad v) (ty := xc_t ci b) (fs := fs.map (x_tr ad)) (C := xc_n ci) (T := xc_T ci) (N := xc_N ci) C.1 C.2.1 C.2.2.2.2.1 (x_us ci h6) (xc_t ci) (x_tyo ci h6) (x_nmo ci h6) C.2.2.2.1 C.2.2.2.2.2.1 hG.1 hG.2.1 hG.2.2.1 o (x_rl_at hw) hcl b hlt (C.2.2.2.2.1 _ hlink) (fun _ h => h) hfin (C.2.2.2.2.2.2.2.2.1 hni) hdecl (x_tyo ci h6 b hlt) (hv ad).1 (hv ad).2 (by rw [List.length_map]; exact Nat.le_of_ble_eq_true hb) hdc (fun H1 locs1 h1 h2 h3 => ?_)
  have he : (Sum.inr (ci, (fs.map (x_tr ad)).set b (x_tr ad v)) : va_E) = x_trE cI cZ ad (.inr (ci, fs.set b v)) := by
    simp only [x_trE, List.map_set]
  rw [he] at h1 h2
  exact kk p l e s m args below meth c D cI cZ A QQ ad0 n0 C hR ad H1 locs1 La (hG.set hw' h1 h2 h3) hl
/-- the library's own constructor -/
theorem V.oinit {o idx : Nat} (hd : xm_i k pc = some (.invokespecial idx, nx, a, b)) (hlink : Cond.methodLink (xm_o k) idx Lib.objectInit ∈ xG) (kk : V X k Q n nx ls st w) (hf : Nat.ble 1 (xm_R k).frames = true := by rfl) (hl : Nat.ble ((st.map fun v => v.category).sum + 12) (xm_R k).locals = true := by rfl) : V X k Q n pc ls (.ref o :: st) w := by
  intro p l e s m args below meth c D cI cZ A QQ ad0 n0 C hR ad H locs La hG hll
  obtain ⟨hdc, hnx, hex⟩ := C.2.2.2.2.2.2.2.2.2 pc _ hd
  dsimp only at hdc hnx hex
  have hnx : nx = pc + 3 := hnx
  subst hnx
  have hts := C.2.2.2.2.1
  refine W.objInit (own := xm_o k) (a := ad o) (rest := st.map (x_tr ad)) C.1 C.2.1 C.2.2.2.1 (hts _ hlink) (hts _ x_oi.1) (hts _ x_oi.2) rfl (hll.1.trans C.2.2.1.symm) rfl hdc (Nat.le_of_ble_eq_true hf) (by show 2 * 0 + _ + 12 ≤ _; rw [x_catl]; have := Nat.le_of_ble_eq_true hl; omega) ?_
  exact kk p l e s m args below meth c D cI cZ A QQ ad0 n0 C hR ad H locs La hG hll
theorem V.mmin {x y : Int32} {idx : Nat} (hd : xm_i 50 pc = some (.invokestatic idx, nx, a, b)) (hi : idx = 9) (kk : V X 50 Q n nx ls (.int (if y < x then y else x) :: st) w) (hl : Nat.ble ((st.map fun v => v.category).sum + 13) (xm_R 50).locals = true := by rfl) (hc : Nat.ble n.1 (xm_R 50).cells = true := by rfl) (hs : Nat.ble n.2 (xm_R 50).slots = true := by rfl) : V X 50 Q n pc ls (.int y :: .int x :: st) w := by
  intro p l e s m args below meth c D cI cZ A QQ ad0 n0 C hR ad H locs La hG hll
  obtain ⟨hdc, hnx, hex⟩ := C.2.2.2.2.2.2.2.2.2 pc _ hd
  dsimp only at hdc hnx hex
  have hnx : nx = pc + 3 := hnx
  subst hnx
  subst hi
  have hts := C.2.2.2.2.1
  exact va_mmin (own := xm_o 50) C.1 C.2.1 (C.2.2.1.trans hll.1.symm) C.2.2.2.1 (hts _ x_mmin.1) (hts _ x_mmin.2.1) (hts _ x_mmin.2.2.1) (hts _ x_mmin.2.2.2) (Nat.le_of_ble_eq_true rfl) (by rw [x_catl]; exact Nat.le_of_ble_eq_true hl) (Nat.le_of_ble_eq_true hc) (Nat.le_of_ble_eq_true hs) hdc (kk p l e s m args below meth c D cI cZ A QQ ad0 n0 C hR ad H locs La hG hll)
theorem V.mmax {x y : Int32} {idx : Nat} (hd : xm_i 50 pc = some (.invokestatic idx, nx, a, b)) (hi : idx = 15) (kk : V X 50 Q n nx ls (.int (if x < y then y else x) :: st) w) (hl : Nat.ble ((st.map fun v => v.category).sum + 13) (xm_R 50).locals = true := by rfl) (hc : Nat.ble n.1 (xm_R 50).cells = true := by rfl) (hs : Nat.ble n.2 (xm_R 50).slots = true := by rfl) : V X 50 Q n pc ls (.int y :: .int x :: st) w := by
  intro p l e s m args below meth c D cI cZ A QQ ad0 n0 C hR ad H locs La hG hll
  obtain ⟨hdc, hnx, hex⟩ := C.2.2.2.2.2.2.2.2.2 pc _ hd
  dsimp only at hdc hnx hex
  have hnx : nx = pc + 3 := hnx
  subst hnx
  subst hi
  have hts := C.2.2.2.2.1
  exact va_mmax (own := xm_o 50) C.1 C.2.1 (C.2.2.1.trans hll.1.symm) C.2.2.2.1 (hts _ x_mmax.1) (hts _ x_mmax.2.1) (hts _ x_mmax.2.2.1) (hts _ x_mmax.2.2.2) (Nat.le_of_ble_eq_true rfl) (by rw [x_catl]; exact Nat.le_of_ble_eq_true hl) (Nat.le_of_ble_eq_true hc) (Nat.le_of_ble_eq_true hs) hdc (kk p l e s m args below meth c D cI cZ A QQ ad0 n0 C hR ad H locs La hG hll)
/-- a constructor's call, that makes: the room is taken as it is -/
theorem V.ci {idx j o : Nat} {as rest : List Value} {Qj : Option Value → xW → Prop} (hd : xm_i k pc = some (.invokespecial idx, nx, j, b)) (ht : Tot none j (.ref o :: as) w Qj) (hst : as.reverse ++ .ref o :: rest = st)
    (kk : ∀ v w', Qj v w' → V X k Q (n.1 + (xm_R j).cells, n.2 + (xm_R j).slots) nx ls (v.toList ++ rest) w') (hok : (ls.all (fun q => x_okv w.length q.2) && rest.all (x_okv w.length)) = true := by rfl) (hj : Nat.ble j 899 = true := by rfl) (hlen : Nat.beq as.length b = true := by rfl) (hW : Nat.ble (rest.map fun v => v.category).sum 8 = true := by rfl) (ha : xm_a k = true := by rfl) (hn : Nat.ble (n.1 + (xm_R j).cells) (xm_R k).cells = true := by rfl) (hm : Nat.ble (n.2 + (xm_R j).slots) (xm_R k).slots = true := by rfl) : V X k Q n pc ls st w := by
  rw [Bool.and_eq_true] at hok
  exact V.callI hd hj ht hst (Nat.eq_of_beq_eq_true hlen) (Nat.le_of_ble_eq_true hW) (Or.inl rfl) (Or.inr ⟨ha, hok⟩) ⟨Nat.le_of_ble_eq_true hn, Nat.le_of_ble_eq_true hm⟩ kk
end VA
