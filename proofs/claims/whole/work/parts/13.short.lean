/-! short forms of the rules, for methods that make nothing -/
section VSH
variable {X : Option (Nat × (Nat → Int32))} {k : Nat} {Q : Option Value → xW → Prop} {n : Nat × Nat} {pc nx a b : Nat} {ls : xL} {st : List Value} {w : xW}
theorem V.cv {idx j o : Nat} {as rest : List Value} {fs : List Value} {Qj : Option Value → xW → Prop} (hd : xm_i k pc = some (.invokevirtual idx, nx, j, b)) (ht : Tot none j (.ref o :: as) w Qj) (hst : as.reverse ++ .ref o :: rest = st) (hw : w[o]? = some (.inr (xm_c j, fs)))
    (kk : ∀ v w', Qj v w' → V X k Q n nx ls (v.toList ++ rest) w') (hlen : Nat.beq as.length b = true := by rfl) (hW : Nat.ble (rest.map fun v => v.category).sum 8 = true := by rfl) (ha : xm_a j = false := by rfl) (hc : (xm_R j).cells = 0 := by rfl) (hs : (xm_R j).slots = 0 := by rfl) (hn : Nat.ble n.1 (xm_R k).cells = true := by rfl) (hm : Nat.ble n.2 (xm_R k).slots = true := by rfl) : V X k Q n pc ls st w := by
  refine V.callV hd ht hst hw (Nat.eq_of_beq_eq_true hlen) (Nat.le_of_ble_eq_true hW) (Or.inl rfl) (Or.inl ha) ⟨by rw [hc]; exact Nat.le_of_ble_eq_true hn, by rw [hs]; exact Nat.le_of_ble_eq_true hm⟩ ?_
  rw [hc, hs]
  exact kk
theorem V.cs {idx j : Nat} {as rest : List Value} {Qj : Option Value → xW → Prop} (hd : xm_i k pc = some (.invokestatic idx, nx, j, b)) (ht : Tot none j as w Qj) (hst : as.reverse ++ rest = st)
    (kk : ∀ v w', Qj v w' → V X k Q n nx ls (v.toList ++ rest) w') (hj : Nat.ble j 899 = true := by rfl) (hlen : Nat.beq as.length b = true := by rfl) (hW : Nat.ble (rest.map fun v => v.category).sum 8 = true := by rfl) (ha : xm_a j = false := by rfl) (hc : (xm_R j).cells = 0 := by rfl) (hs : (xm_R j).slots = 0 := by rfl) (hn : Nat.ble n.1 (xm_R k).cells = true := by rfl) (hm : Nat.ble n.2 (xm_R k).slots = true := by rfl) : V X k Q n pc ls st w := by
  refine V.callS hd hj ht hst (Nat.eq_of_beq_eq_true hlen) (Nat.le_of_ble_eq_true hW) (Or.inl rfl) (Or.inl ha) ⟨by rw [hc]; exact Nat.le_of_ble_eq_true hn, by rw [hs]; exact Nat.le_of_ble_eq_true hm⟩ ?_
  rw [hc, hs]
  exact kk
theorem V.ri {x : Int32} (hd : xm_i k pc = some (.ireturn, nx, a, b)) (hq : Q (some (.int x)) w) (hr : xm_r k = some .int := by rfl) (hn : Nat.ble n.1 (xm_R k).cells = true := by rfl) (hm : Nat.ble n.2 (xm_R k).slots = true := by rfl) : V X k Q n pc ls [.int x] w :=
  V.reti hd hr ⟨Nat.le_of_ble_eq_true hn, Nat.le_of_ble_eq_true hm⟩ hq
theorem V.rz {x : Int32} (hd : xm_i k pc = some (.ireturn, nx, a, b)) (hx : x = 0 ∨ x = 1) (hq : Q (some (.int x)) w) (hr : xm_r k = some .boolean := by rfl) (hn : Nat.ble n.1 (xm_R k).cells = true := by rfl) (hm : Nat.ble n.2 (xm_R k).slots = true := by rfl) : V X k Q n pc ls [.int x] w :=
  V.retz hd hr ⟨Nat.le_of_ble_eq_true hn, Nat.le_of_ble_eq_true hm⟩ hx hq
theorem V.rl {x : Int64} (hd : xm_i k pc = some (.lreturn, nx, a, b)) (hq : Q (some (.long x)) w) (hr : xm_r k = some .long := by rfl) (hn : Nat.ble n.1 (xm_R k).cells = true := by rfl) (hm : Nat.ble n.2 (xm_R k).slots = true := by rfl) : V X k Q n pc ls [.long x] w :=
  V.retl hd hr ⟨Nat.le_of_ble_eq_true hn, Nat.le_of_ble_eq_true hm⟩ hq
theorem V.rv (hd : xm_i k pc = some (.return_, nx, a, b)) (hq : Q none w) (hr : xm_r k = none := by rfl) (hn : Nat.ble n.1 (xm_R k).cells = true := by rfl) (hm : Nat.ble n.2 (xm_R k).slots = true := by rfl) : V X k Q n pc ls [] w :=
  V.retv hd hr ⟨Nat.le_of_ble_eq_true hn, Nat.le_of_ble_eq_true hm⟩ hq
/-- a put of an int -/
theorem V.puti {o ci : Nat} {fs : List Value} {idx : Nat} {x : Int32} {w' : xW} (hd : xm_i k pc = some (.putfield idx, nx, ci, b)) (hw : w[o]? = some (.inr (ci, fs))) (hw' : w.set o (.inr (ci, fs.set b (.int x))) = w') (kk : V X k Q n nx ls st w') (hb : Nat.ble (b + 1) fs.length = true := by rfl) (hty : xc_t ci b = .int := by rfl) (hfin : (xc_T ci b).2.2.2 = false := by rfl) : V X k Q n pc ls (.int x :: .ref o :: st) w := by
  intro p l e s m args below meth c D cI cZ A QQ ad0 n0 C hR ad H locs La hG hl
  obtain ⟨hdc, hnx, hex⟩ := C.2.2.2.2.2.2.2.2.2 pc _ hd
  dsimp only at hdc hnx hex
  subst hnx
  obtain ⟨hcl, hlt, hlink⟩ := x_fl_ok _ hex
  have h6 := x_cl6 hcl
  refine va_put (D := D) (ci := ci) (v := .int x) (ty := .int) (fs := fs.map (x_tr ad)) (C := xc_n ci) (T := xc_T ci) (N := xc_N ci) C.1 C.2.1 C.2.2.2.2.1 (x_us ci h6) (xc_t ci) (x_tyo ci h6) (x_nmo ci h6) C.2.2.2.1 C.2.2.2.2.2.1 hG.1 hG.2.1 hG.2.2.1 o (x_rl_at hw) hcl b hlt (C.2.2.2.2.1 _ hlink) (fun _ h => h) hfin (by rw [x_tyo ci h6 b hlt, hty]) rfl rfl (by rw [List.length_map]; exact Nat.le_of_ble_eq_true hb) hdc (fun H1 locs1 h1 h2 h3 => ?_)
  have he : (Sum.inr (ci, (fs.map (x_tr ad)).set b (.int x)) : va_E) = x_trE cI cZ ad (.inr (ci, fs.set b (.int x))) := by
    simp only [x_trE, List.map_set]
    rfl
  rw [he] at h1 h2
  exact kk p l e s m args below meth c D cI cZ A QQ ad0 n0 C hR ad H1 locs1 La (hG.set hw' h1 h2 h3) hl
end VSH
