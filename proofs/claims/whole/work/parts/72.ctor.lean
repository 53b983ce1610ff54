section VN
variable {X : Option (Nat × (Nat → Int32))} {k : Nat} {Q : Option Value → xW → Prop} {n : Nat × Nat} {pc nx a b : Nat} {ls : xL} {st : List Value} {w : xW}
theorem V.mkI {N : Nat} {i : Int32} (n' : Nat × Nat) (o : Nat) (w' : xW) (hd : xm_i k pc = some (.newarray .int, nx, a, b)) (hi : i = nI N) (hN : N ≤ 512) (hn : n.1 + 1 ≤ n'.1 ∧ n.2 + N ≤ n'.2) (kk : V X k Q n' nx ls (.ref o :: st) w') (ho : w.length = o := by rfl) (hok : (ls.all (fun q => x_okv w.length q.2) && (st.all (x_okv w.length) && w.all (x_okE w.length))) = true := by rfl) (hw' : w ++ [.inl (false, N, fun _ => 0)] = w' := by rfl) (hc : Nat.ble n'.1 (xm_R k).cells = true := by rfl) (hs : Nat.ble n'.2 (xm_R k).slots = true := by rfl) (ha : xm_a k = true := by rfl) (hl : Nat.ble (w.length + 1) 999 = true := by rfl) : V X k Q n pc ls (.int i :: st) w := by
  subst ho
  exact V.newI hd hi hN hok hw' hn ⟨Nat.le_of_ble_eq_true hc, Nat.le_of_ble_eq_true hs⟩ kk ha hl
theorem V.mkZ {N : Nat} {i : Int32} (n' : Nat × Nat) (o : Nat) (w' : xW) (hd : xm_i k pc = some (.newarray .boolean, nx, a, b)) (hi : i = nI N) (hN : N ≤ 512) (hn : n.1 + 1 ≤ n'.1 ∧ n.2 + N ≤ n'.2) (kk : V X k Q n' nx ls (.ref o :: st) w') (ho : w.length = o := by rfl) (hok : (ls.all (fun q => x_okv w.length q.2) && (st.all (x_okv w.length) && w.all (x_okE w.length))) = true := by rfl) (hw' : w ++ [.inl (true, N, fun _ => 0)] = w' := by rfl) (hc : Nat.ble n'.1 (xm_R k).cells = true := by rfl) (hs : Nat.ble n'.2 (xm_R k).slots = true := by rfl) (ha : xm_a k = true := by rfl) (hl : Nat.ble (w.length + 1) 999 = true := by rfl) : V X k Q n pc ls (.int i :: st) w := by
  subst ho
  exact V.newZ hd hi hN hok hw' hn ⟨Nat.le_of_ble_eq_true hc, Nat.le_of_ble_eq_true hs⟩ kk ha hl
theorem V.mkO {idx ci : Nat} (n' : Nat × Nat) (o : Nat) (fs : List Value) (w' : xW) (hd : xm_i k pc = some (.new idx, nx, ci, b)) (kk : V X k Q n' nx ls (.ref o :: st) w') (hn : (Nat.ble (n.1 + 1) n'.1 && Nat.ble (n.2 + xc_N ci) n'.2) = true := by rfl) (hf : (List.range (xc_N ci)).map (fun j => defaultValue (xc_t ci j)) = fs := by rfl) (hft : ∀ ad : Nat → Nat, fs.map (x_tr ad) = fs := by exact fun _ => rfl) (ho : w.length = o := by rfl) (hok : (ls.all (fun q => x_okv w.length q.2) && (st.all (x_okv w.length) && w.all (x_okE w.length))) = true := by rfl) (hw' : w ++ [.inr (ci, fs)] = w' := by rfl) (hc : Nat.ble n'.1 (xm_R k).cells = true := by rfl) (hs : Nat.ble n'.2 (xm_R k).slots = true := by rfl) (ha : xm_a k = true := by rfl) (hl : Nat.ble (w.length + 1) 999 = true := by rfl) : V X k Q n pc ls st w := by
  subst ho
  rw [Bool.and_eq_true] at hn
  exact V.new hd hf hft hok hw' ⟨Nat.le_of_ble_eq_true hn.1, Nat.le_of_ble_eq_true hn.2⟩ ⟨Nat.le_of_ble_eq_true hc, Nat.le_of_ble_eq_true hs⟩ kk ha hl
/-- an end of a constructor, at any room within its own -/
theorem V.rvn (hd : xm_i k pc = some (.return_, nx, a, b)) (hq : Q none w) (hn : n.1 ≤ (xm_R k).cells ∧ n.2 ≤ (xm_R k).slots) (hr : xm_r k = none := by rfl) : V X k Q n pc ls [] w := V.retv hd hr hn hq
end VN
abbrev z0 : Nat → Int32 := fun _ => 0
section CC
variable {B : Nat}
abbrev fN4 : List Value := [.null, .null, .null, .null, .null, .null, .int 0, .int 0]
theorem i_Store (hB : B ≤ 16) : Tot none kX2_init [.ref 1, .int (nI (32 * B))] [.inr (4, [.null, .null, .null, .null, .null, .null, .int 0, .int 0]), .inr (2, [.null, .null, .null, .null, .null])] (fun o w' => o = none ∧ ∃ f, w' = [.inr (4, [.null, .null, .null, .null, .null, .null, .int 0, .int 0]), .inr (2, [.ref 2, .ref 3, .ref 4, .ref 5, .ref 6]), .inl (false, 32 * B, f), .inl (false, 32 * B, z0), .inl (true, 32 * B, z0), .inl (false, 32 * B, z0), .inl (false, 32 * B, z0)] ∧ ∀ x, x < 32 * B → f x = -1) := by
  refine eX2_init ?_
  refine V.run 20 rfl ?_
  refine V.oinit rfl x_oi_29 ?_
  refine V.run 20 rfl ?_
  refine V.mkI (1, 512) 2 [.inr (4, [.null, .null, .null, .null, .null, .null, .int 0, .int 0]), .inr (2, [.null, .null, .null, .null, .null]), .inl (false, 32 * B, z0)] rfl rfl (by omega) ⟨by decide, by show 0 + 32 * B ≤ 512; omega⟩ ?_
  refine V.putF (w' := [.inr (4, [.null, .null, .null, .null, .null, .null, .int 0, .int 0]), .inr (2, [.ref 2, .null, .null, .null, .null]), .inl (false, 32 * B, z0)]) rfl rfl rfl ?_
  refine V.run 20 rfl ?_
  refine V.mkI (2, 1024) 3 [.inr (4, [.null, .null, .null, .null, .null, .null, .int 0, .int 0]), .inr (2, [.ref 2, .null, .null, .null, .null]), .inl (false, 32 * B, z0), .inl (false, 32 * B, z0)] rfl rfl (by omega) ⟨by decide, by show 512 + 32 * B ≤ 1024; omega⟩ ?_
  refine V.putF (w' := [.inr (4, [.null, .null, .null, .null, .null, .null, .int 0, .int 0]), .inr (2, [.ref 2, .ref 3, .null, .null, .null]), .inl (false, 32 * B, z0), .inl (false, 32 * B, z0)]) rfl rfl rfl ?_
  refine V.run 20 rfl ?_
  refine V.mkZ (3, 1536) 4 [.inr (4, [.null, .null, .null, .null, .null, .null, .int 0, .int 0]), .inr (2, [.ref 2, .ref 3, .null, .null, .null]), .inl (false, 32 * B, z0), .inl (false, 32 * B, z0), .inl (true, 32 * B, z0)] rfl rfl (by omega) ⟨by decide, by show 1024 + 32 * B ≤ 1536; omega⟩ ?_
  refine V.putF (w' := [.inr (4, [.null, .null, .null, .null, .null, .null, .int 0, .int 0]), .inr (2, [.ref 2, .ref 3, .ref 4, .null, .null]), .inl (false, 32 * B, z0), .inl (false, 32 * B, z0), .inl (true, 32 * B, z0)]) rfl rfl rfl ?_
  refine V.run 20 rfl ?_
  refine V.mkI (4, 2048) 5 [.inr (4, [.null, .null, .null, .null, .null, .null, .int 0, .int 0]), .inr (2, [.ref 2, .ref 3, .ref 4, .null, .null]), .inl (false, 32 * B, z0), .inl (false, 32 * B, z0), .inl (true, 32 * B, z0), .inl (false, 32 * B, z0)] rfl rfl (by omega) ⟨by decide, by show 1536 + 32 * B ≤ 2048; omega⟩ ?_
  refine V.putF (w' := [.inr (4, [.null, .null, .null, .null, .null, .null, .int 0, .int 0]), .inr (2, [.ref 2, .ref 3, .ref 4, .ref 5, .null]), .inl (false, 32 * B, z0), .inl (false, 32 * B, z0), .inl (true, 32 * B, z0), .inl (false, 32 * B, z0)]) rfl rfl rfl ?_
  refine V.run 20 rfl ?_
  refine V.mkI (5, 2560) 6 [.inr (4, [.null, .null, .null, .null, .null, .null, .int 0, .int 0]), .inr (2, [.ref 2, .ref 3, .ref 4, .ref 5, .null]), .inl (false, 32 * B, z0), .inl (false, 32 * B, z0), .inl (true, 32 * B, z0), .inl (false, 32 * B, z0), .inl (false, 32 * B, z0)] rfl rfl (by omega) ⟨by decide, by show 2048 + 32 * B ≤ 2560; omega⟩ ?_
  refine V.putF (w' := [.inr (4, [.null, .null, .null, .null, .null, .null, .int 0, .int 0]), .inr (2, [.ref 2, .ref 3, .ref 4, .ref 5, .ref 6]), .inl (false, 32 * B, z0), .inl (false, 32 * B, z0), .inl (true, 32 * B, z0), .inl (false, 32 * B, z0), .inl (false, 32 * B, z0)]) rfl rfl rfl ?_
  refine V.run 20 rfl ?_
  have loop : ∀ (m i : Nat) (f : Nat → Int32), i + m = 32 * B → (∀ x, x < i → f x = -1) → V none 29 (fun o w' => o = none ∧ ∃ f, w' = [.inr (4, [.null, .null, .null, .null, .null, .null, .int 0, .int 0]), .inr (2, [.ref 2, .ref 3, .ref 4, .ref 5, .ref 6]), .inl (false, 32 * B, f), .inl (false, 32 * B, z0), .inl (true, 32 * B, z0), .inl (false, 32 * B, z0), .inl (false, 32 * B, z0)] ∧ ∀ x, x < 32 * B → f x = -1) (5, 2560) 43 [(0, .ref 1), (1, .int (nI (32 * B))), (2, .int (nI i))] [.int (nI (32 * B)), .int (nI i)] [.inr (4, [.null, .null, .null, .null, .null, .null, .int 0, .int 0]), .inr (2, [.ref 2, .ref 3, .ref 4, .ref 5, .ref 6]), .inl (false, 32 * B, f), .inl (false, 32 * B, z0), .inl (true, 32 * B, z0), .inl (false, 32 * B, z0), .inl (false, 32 * B, z0)] := by
    intro m
    induction m with
    | zero =>
      intro i f hi hf
      refine V.brT rfl rfl (nI_le (by omega) (by omega)) ?_
      exact V.rv rfl ⟨rfl, f, rfl, fun x hx => hf x (by omega)⟩
    | succ m ih =>
      intro i f hi hf
      refine V.brF rfl rfl (nI_ge (show i < 32 * B by omega) (by omega)) ?_
      refine V.run 20 rfl ?_
      refine V.iast (w' := [.inr (4, [.null, .null, .null, .null, .null, .null, .int 0, .int 0]), .inr (2, [.ref 2, .ref 3, .ref 4, .ref 5, .ref 6]), .inl (false, 32 * B, (upd f i (-1))), .inl (false, 32 * B, z0), .inl (true, 32 * B, z0), .inl (false, 32 * B, z0), .inl (false, 32 * B, z0)]) rfl rfl rfl (show i < 32 * B by omega) (by omega) rfl ?_
      refine V.run 20 rfl ?_
      rw [nI_add]
      refine ih (i + 1) _ (by omega) (fun x hx => ?_)
      by_cases q : x = i
      · subst q; exact upd_s
      · rw [upd_n q]; exact hf x (by omega)
  exact loop (32 * B) 0 z0 (by omega) (fun x hx => absurd hx (Nat.not_lt_zero x))
theorem i_Walk1 (hB : B ≤ 16) {f1 : Nat → Int32} : Tot none kX3_init [.ref 7, .int (nI (32 * B))] [.inr (4, [.ref 1, .null, .null, .null, .null, .null, .int 0, .int 0]), .inr (2, [.ref 2, .ref 3, .ref 4, .ref 5, .ref 6]), .inl (false, 32 * B, f1), .inl (false, 32 * B, z0), .inl (true, 32 * B, z0), .inl (false, 32 * B, z0), .inl (false, 32 * B, z0), .inr (3, [.null, .null, .int 0, .int 0])] (fun o w' => o = none ∧ ∃ f, w' = [.inr (4, [.ref 1, .null, .null, .null, .null, .null, .int 0, .int 0]), .inr (2, [.ref 2, .ref 3, .ref 4, .ref 5, .ref 6]), .inl (false, 32 * B, f1), .inl (false, 32 * B, z0), .inl (true, 32 * B, z0), .inl (false, 32 * B, z0), .inl (false, 32 * B, z0), .inr (3, [.ref 8, .ref 9, .int 0, .int 0]), .inl (false, 16 * B, z0), .inl (false, 32 * B, f)] ∧ ∀ x, x < 32 * B → f x = -1) := by
  refine eX3_init ?_
  refine V.run 20 rfl ?_
  refine V.oinit rfl x_oi_42 ?_
  refine V.run 20 rfl ?_
  refine V.idiv rfl (by decide) ?_
  rw [pk_div (by omega) (by omega) (by omega), show 32 * B / 2 = 16 * B by omega]
  refine V.mkI (1, 256) 8 [.inr (4, [.ref 1, .null, .null, .null, .null, .null, .int 0, .int 0]), .inr (2, [.ref 2, .ref 3, .ref 4, .ref 5, .ref 6]), .inl (false, 32 * B, f1), .inl (false, 32 * B, z0), .inl (true, 32 * B, z0), .inl (false, 32 * B, z0), .inl (false, 32 * B, z0), .inr (3, [.null, .null, .int 0, .int 0]), .inl (false, 16 * B, z0)] rfl rfl (by omega) ⟨by decide, by show 0 + 16 * B ≤ 256; omega⟩ ?_
  refine V.putF (w' := [.inr (4, [.ref 1, .null, .null, .null, .null, .null, .int 0, .int 0]), .inr (2, [.ref 2, .ref 3, .ref 4, .ref 5, .ref 6]), .inl (false, 32 * B, f1), .inl (false, 32 * B, z0), .inl (true, 32 * B, z0), .inl (false, 32 * B, z0), .inl (false, 32 * B, z0), .inr (3, [.ref 8, .null, .int 0, .int 0]), .inl (false, 16 * B, z0)]) rfl rfl rfl ?_
  refine V.run 20 rfl ?_
  refine V.mkI (2, 768) 9 [.inr (4, [.ref 1, .null, .null, .null, .null, .null, .int 0, .int 0]), .inr (2, [.ref 2, .ref 3, .ref 4, .ref 5, .ref 6]), .inl (false, 32 * B, f1), .inl (false, 32 * B, z0), .inl (true, 32 * B, z0), .inl (false, 32 * B, z0), .inl (false, 32 * B, z0), .inr (3, [.ref 8, .null, .int 0, .int 0]), .inl (false, 16 * B, z0), .inl (false, 32 * B, z0)] rfl rfl (by omega) ⟨by decide, by show 256 + 32 * B ≤ 768; omega⟩ ?_
  refine V.putF (w' := [.inr (4, [.ref 1, .null, .null, .null, .null, .null, .int 0, .int 0]), .inr (2, [.ref 2, .ref 3, .ref 4, .ref 5, .ref 6]), .inl (false, 32 * B, f1), .inl (false, 32 * B, z0), .inl (true, 32 * B, z0), .inl (false, 32 * B, z0), .inl (false, 32 * B, z0), .inr (3, [.ref 8, .ref 9, .int 0, .int 0]), .inl (false, 16 * B, z0), .inl (false, 32 * B, z0)]) rfl rfl rfl ?_
  refine V.run 20 rfl ?_
  have loop : ∀ (m i : Nat) (f : Nat → Int32), i + m = 32 * B → (∀ x, x < i → f x = -1) → V none 42 (fun o w' => o = none ∧ ∃ f, w' = [.inr (4, [.ref 1, .null, .null, .null, .null, .null, .int 0, .int 0]), .inr (2, [.ref 2, .ref 3, .ref 4, .ref 5, .ref 6]), .inl (false, 32 * B, f1), .inl (false, 32 * B, z0), .inl (true, 32 * B, z0), .inl (false, 32 * B, z0), .inl (false, 32 * B, z0), .inr (3, [.ref 8, .ref 9, .int 0, .int 0]), .inl (false, 16 * B, z0), .inl (false, 32 * B, f)] ∧ ∀ x, x < 32 * B → f x = -1) (2, 768) 24 [(0, .ref 7), (1, .int (nI (32 * B))), (2, .int (nI i))] [.int (nI (32 * B)), .int (nI i)] [.inr (4, [.ref 1, .null, .null, .null, .null, .null, .int 0, .int 0]), .inr (2, [.ref 2, .ref 3, .ref 4, .ref 5, .ref 6]), .inl (false, 32 * B, f1), .inl (false, 32 * B, z0), .inl (true, 32 * B, z0), .inl (false, 32 * B, z0), .inl (false, 32 * B, z0), .inr (3, [.ref 8, .ref 9, .int 0, .int 0]), .inl (false, 16 * B, z0), .inl (false, 32 * B, f)] := by
    intro m
    induction m with
    | zero =>
      intro i f hi hf
      refine V.brT rfl rfl (nI_le (by omega) (by omega)) ?_
      exact V.rv rfl ⟨rfl, f, rfl, fun x hx => hf x (by omega)⟩
    | succ m ih =>
      intro i f hi hf
      refine V.brF rfl rfl (nI_ge (show i < 32 * B by omega) (by omega)) ?_
      refine V.run 20 rfl ?_
      refine V.iast (w' := [.inr (4, [.ref 1, .null, .null, .null, .null, .null, .int 0, .int 0]), .inr (2, [.ref 2, .ref 3, .ref 4, .ref 5, .ref 6]), .inl (false, 32 * B, f1), .inl (false, 32 * B, z0), .inl (true, 32 * B, z0), .inl (false, 32 * B, z0), .inl (false, 32 * B, z0), .inr (3, [.ref 8, .ref 9, .int 0, .int 0]), .inl (false, 16 * B, z0), .inl (false, 32 * B, (upd f i (-1)))]) rfl rfl rfl (show i < 32 * B by omega) (by omega) rfl ?_
      refine V.run 20 rfl ?_
      rw [nI_add]
      refine ih (i + 1) _ (by omega) (fun x hx => ?_)
      by_cases q : x = i
      · subst q; exact upd_s
      · rw [upd_n q]; exact hf x (by omega)
  exact loop (32 * B) 0 z0 (by omega) (fun x hx => absurd hx (Nat.not_lt_zero x))
theorem i_Walk2 (hB : B ≤ 16) {f1 f2 : Nat → Int32} : Tot none kX3_init [.ref 10, .int (nI (32 * B))] [.inr (4, [.ref 1, .null, .null, .null, .ref 7, .null, .int 0, .int 0]), .inr (2, [.ref 2, .ref 3, .ref 4, .ref 5, .ref 6]), .inl (false, 32 * B, f1), .inl (false, 32 * B, z0), .inl (true, 32 * B, z0), .inl (false, 32 * B, z0), .inl (false, 32 * B, z0), .inr (3, [.ref 8, .ref 9, .int 0, .int 0]), .inl (false, 16 * B, z0), .inl (false, 32 * B, f2), .inr (3, [.null, .null, .int 0, .int 0])] (fun o w' => o = none ∧ ∃ f, w' = [.inr (4, [.ref 1, .null, .null, .null, .ref 7, .null, .int 0, .int 0]), .inr (2, [.ref 2, .ref 3, .ref 4, .ref 5, .ref 6]), .inl (false, 32 * B, f1), .inl (false, 32 * B, z0), .inl (true, 32 * B, z0), .inl (false, 32 * B, z0), .inl (false, 32 * B, z0), .inr (3, [.ref 8, .ref 9, .int 0, .int 0]), .inl (false, 16 * B, z0), .inl (false, 32 * B, f2), .inr (3, [.ref 11, .ref 12, .int 0, .int 0]), .inl (false, 16 * B, z0), .inl (false, 32 * B, f)] ∧ ∀ x, x < 32 * B → f x = -1) := by
  refine eX3_init ?_
  refine V.run 20 rfl ?_
  refine V.oinit rfl x_oi_42 ?_
  refine V.run 20 rfl ?_
  refine V.idiv rfl (by decide) ?_
  rw [pk_div (by omega) (by omega) (by omega), show 32 * B / 2 = 16 * B by omega]
  refine V.mkI (1, 256) 11 [.inr (4, [.ref 1, .null, .null, .null, .ref 7, .null, .int 0, .int 0]), .inr (2, [.ref 2, .ref 3, .ref 4, .ref 5, .ref 6]), .inl (false, 32 * B, f1), .inl (false, 32 * B, z0), .inl (true, 32 * B, z0), .inl (false, 32 * B, z0), .inl (false, 32 * B, z0), .inr (3, [.ref 8, .ref 9, .int 0, .int 0]), .inl (false, 16 * B, z0), .inl (false, 32 * B, f2), .inr (3, [.null, .null, .int 0, .int 0]), .inl (false, 16 * B, z0)] rfl rfl (by omega) ⟨by decide, by show 0 + 16 * B ≤ 256; omega⟩ ?_
  refine V.putF (w' := [.inr (4, [.ref 1, .null, .null, .null, .ref 7, .null, .int 0, .int 0]), .inr (2, [.ref 2, .ref 3, .ref 4, .ref 5, .ref 6]), .inl (false, 32 * B, f1), .inl (false, 32 * B, z0), .inl (true, 32 * B, z0), .inl (false, 32 * B, z0), .inl (false, 32 * B, z0), .inr (3, [.ref 8, .ref 9, .int 0, .int 0]), .inl (false, 16 * B, z0), .inl (false, 32 * B, f2), .inr (3, [.ref 11, .null, .int 0, .int 0]), .inl (false, 16 * B, z0)]) rfl rfl rfl ?_
  refine V.run 20 rfl ?_
  refine V.mkI (2, 768) 12 [.inr (4, [.ref 1, .null, .null, .null, .ref 7, .null, .int 0, .int 0]), .inr (2, [.ref 2, .ref 3, .ref 4, .ref 5, .ref 6]), .inl (false, 32 * B, f1), .inl (false, 32 * B, z0), .inl (true, 32 * B, z0), .inl (false, 32 * B, z0), .inl (false, 32 * B, z0), .inr (3, [.ref 8, .ref 9, .int 0, .int 0]), .inl (false, 16 * B, z0), .inl (false, 32 * B, f2), .inr (3, [.ref 11, .null, .int 0, .int 0]), .inl (false, 16 * B, z0), .inl (false, 32 * B, z0)] rfl rfl (by omega) ⟨by decide, by show 256 + 32 * B ≤ 768; omega⟩ ?_
  refine V.putF (w' := [.inr (4, [.ref 1, .null, .null, .null, .ref 7, .null, .int 0, .int 0]), .inr (2, [.ref 2, .ref 3, .ref 4, .ref 5, .ref 6]), .inl (false, 32 * B, f1), .inl (false, 32 * B, z0), .inl (true, 32 * B, z0), .inl (false, 32 * B, z0), .inl (false, 32 * B, z0), .inr (3, [.ref 8, .ref 9, .int 0, .int 0]), .inl (false, 16 * B, z0), .inl (false, 32 * B, f2), .inr (3, [.ref 11, .ref 12, .int 0, .int 0]), .inl (false, 16 * B, z0), .inl (false, 32 * B, z0)]) rfl rfl rfl ?_
  refine V.run 20 rfl ?_
  have loop : ∀ (m i : Nat) (f : Nat → Int32), i + m = 32 * B → (∀ x, x < i → f x = -1) → V none 42 (fun o w' => o = none ∧ ∃ f, w' = [.inr (4, [.ref 1, .null, .null, .null, .ref 7, .null, .int 0, .int 0]), .inr (2, [.ref 2, .ref 3, .ref 4, .ref 5, .ref 6]), .inl (false, 32 * B, f1), .inl (false, 32 * B, z0), .inl (true, 32 * B, z0), .inl (false, 32 * B, z0), .inl (false, 32 * B, z0), .inr (3, [.ref 8, .ref 9, .int 0, .int 0]), .inl (false, 16 * B, z0), .inl (false, 32 * B, f2), .inr (3, [.ref 11, .ref 12, .int 0, .int 0]), .inl (false, 16 * B, z0), .inl (false, 32 * B, f)] ∧ ∀ x, x < 32 * B → f x = -1) (2, 768) 24 [(0, .ref 10), (1, .int (nI (32 * B))), (2, .int (nI i))] [.int (nI (32 * B)), .int (nI i)] [.inr (4, [.ref 1, .null, .null, .null, .ref 7, .null, .int 0, .int 0]), .inr (2, [.ref 2, .ref 3, .ref 4, .ref 5, .ref 6]), .inl (false, 32 * B, f1), .inl (false, 32 * B, z0), .inl (true, 32 * B, z0), .inl (false, 32 * B, z0), .inl (false, 32 * B, z0), .inr (3, [.ref 8, .ref 9, .int 0, .int 0]), .inl (false, 16 * B, z0), .inl (false, 32 * B, f2), .inr (3, [.ref 11, .ref 12, .int 0, .int 0]), .inl (false, 16 * B, z0), .inl (false, 32 * B, f)] := by
    intro m
    induction m with
    | zero =>
      intro i f hi hf
      refine V.brT rfl rfl (nI_le (by omega) (by omega)) ?_
      exact V.rv rfl ⟨rfl, f, rfl, fun x hx => hf x (by omega)⟩
    | succ m ih =>
      intro i f hi hf
      refine V.brF rfl rfl (nI_ge (show i < 32 * B by omega) (by omega)) ?_
      refine V.run 20 rfl ?_
      refine V.iast (w' := [.inr (4, [.ref 1, .null, .null, .null, .ref 7, .null, .int 0, .int 0]), .inr (2, [.ref 2, .ref 3, .ref 4, .ref 5, .ref 6]), .inl (false, 32 * B, f1), .inl (false, 32 * B, z0), .inl (true, 32 * B, z0), .inl (false, 32 * B, z0), .inl (false, 32 * B, z0), .inr (3, [.ref 8, .ref 9, .int 0, .int 0]), .inl (false, 16 * B, z0), .inl (false, 32 * B, f2), .inr (3, [.ref 11, .ref 12, .int 0, .int 0]), .inl (false, 16 * B, z0), .inl (false, 32 * B, (upd f i (-1)))]) rfl rfl rfl (show i < 32 * B by omega) (by omega) rfl ?_
      refine V.run 20 rfl ?_
      rw [nI_add]
      refine ih (i + 1) _ (by omega) (fun x hx => ?_)
      by_cases q : x = i
      · subst q; exact upd_s
      · rw [upd_n q]; exact hf x (by omega)
  exact loop (32 * B) 0 z0 (by omega) (fun x hx => absurd hx (Nat.not_lt_zero x))
theorem i_Line (hB : B ≤ 16) {f1 f2 f3 : Nat → Int32} : Tot none kX1_init [.ref 13, .int (nI (16 * B))] [.inr (4, [.ref 1, .null, .null, .null, .ref 7, .ref 10, .int 0, .int 0]), .inr (2, [.ref 2, .ref 3, .ref 4, .ref 5, .ref 6]), .inl (false, 32 * B, f1), .inl (false, 32 * B, z0), .inl (true, 32 * B, z0), .inl (false, 32 * B, z0), .inl (false, 32 * B, z0), .inr (3, [.ref 8, .ref 9, .int 0, .int 0]), .inl (false, 16 * B, z0), .inl (false, 32 * B, f2), .inr (3, [.ref 11, .ref 12, .int 0, .int 0]), .inl (false, 16 * B, z0), .inl (false, 32 * B, f3), .inr (1, [.null, .int 0])] (rN [.inr (4, [.ref 1, .null, .null, .null, .ref 7, .ref 10, .int 0, .int 0]), .inr (2, [.ref 2, .ref 3, .ref 4, .ref 5, .ref 6]), .inl (false, 32 * B, f1), .inl (false, 32 * B, z0), .inl (true, 32 * B, z0), .inl (false, 32 * B, z0), .inl (false, 32 * B, z0), .inr (3, [.ref 8, .ref 9, .int 0, .int 0]), .inl (false, 16 * B, z0), .inl (false, 32 * B, f2), .inr (3, [.ref 11, .ref 12, .int 0, .int 0]), .inl (false, 16 * B, z0), .inl (false, 32 * B, f3), .inr (1, [.ref 14, .int 0]), .inl (false, 16 * B, z0)]) := by
  refine eX1_init ?_
  refine V.run 20 rfl ?_
  refine V.oinit rfl x_oi_24 ?_
  refine V.run 20 rfl ?_
  refine V.mkI (1, 256) 14 [.inr (4, [.ref 1, .null, .null, .null, .ref 7, .ref 10, .int 0, .int 0]), .inr (2, [.ref 2, .ref 3, .ref 4, .ref 5, .ref 6]), .inl (false, 32 * B, f1), .inl (false, 32 * B, z0), .inl (true, 32 * B, z0), .inl (false, 32 * B, z0), .inl (false, 32 * B, z0), .inr (3, [.ref 8, .ref 9, .int 0, .int 0]), .inl (false, 16 * B, z0), .inl (false, 32 * B, f2), .inr (3, [.ref 11, .ref 12, .int 0, .int 0]), .inl (false, 16 * B, z0), .inl (false, 32 * B, f3), .inr (1, [.null, .int 0]), .inl (false, 16 * B, z0)] rfl rfl (by omega) ⟨by decide, by show 0 + 16 * B ≤ 256; omega⟩ ?_
  refine V.putF (w' := [.inr (4, [.ref 1, .null, .null, .null, .ref 7, .ref 10, .int 0, .int 0]), .inr (2, [.ref 2, .ref 3, .ref 4, .ref 5, .ref 6]), .inl (false, 32 * B, f1), .inl (false, 32 * B, z0), .inl (true, 32 * B, z0), .inl (false, 32 * B, z0), .inl (false, 32 * B, z0), .inr (3, [.ref 8, .ref 9, .int 0, .int 0]), .inl (false, 16 * B, z0), .inl (false, 32 * B, f2), .inr (3, [.ref 11, .ref 12, .int 0, .int 0]), .inl (false, 16 * B, z0), .inl (false, 32 * B, f3), .inr (1, [.ref 14, .int 0]), .inl (false, 16 * B, z0)]) rfl rfl rfl ?_
  exact V.rv rfl ⟨rfl, rfl⟩
theorem i_Blocks (hB : B ≤ 16) {f1 f2 f3 : Nat → Int32} : Tot none kX0_init [.ref 15, .int (nI B), .ref 1, .ref 7] [.inr (4, [.ref 1, .null, .ref 13, .null, .ref 7, .ref 10, .int 0, .int 0]), .inr (2, [.ref 2, .ref 3, .ref 4, .ref 5, .ref 6]), .inl (false, 32 * B, f1), .inl (false, 32 * B, z0), .inl (true, 32 * B, z0), .inl (false, 32 * B, z0), .inl (false, 32 * B, z0), .inr (3, [.ref 8, .ref 9, .int 0, .int 0]), .inl (false, 16 * B, z0), .inl (false, 32 * B, f2), .inr (3, [.ref 11, .ref 12, .int 0, .int 0]), .inl (false, 16 * B, z0), .inl (false, 32 * B, f3), .inr (1, [.ref 14, .int 0]), .inl (false, 16 * B, z0), .inr (0, [.null, .null, .null, .null, .int 0])] (fun o w' => o = none ∧ ∃ f, w' = [.inr (4, [.ref 1, .null, .ref 13, .null, .ref 7, .ref 10, .int 0, .int 0]), .inr (2, [.ref 2, .ref 3, .ref 4, .ref 5, .ref 6]), .inl (false, 32 * B, f1), .inl (false, 32 * B, z0), .inl (true, 32 * B, z0), .inl (false, 32 * B, z0), .inl (false, 32 * B, z0), .inr (3, [.ref 8, .ref 9, .int 0, .int 0]), .inl (false, 16 * B, z0), .inl (false, 32 * B, f2), .inr (3, [.ref 11, .ref 12, .int 0, .int 0]), .inl (false, 16 * B, z0), .inl (false, 32 * B, f3), .inr (1, [.ref 14, .int 0]), .inl (false, 16 * B, z0), .inr (0, [.ref 1, .ref 7, .ref 16, .ref 17, .int 0]), .inl (false, B, f), .inl (true, B, z0)] ∧ ∀ x, x < B → f x = -1) := by
  refine eX0_init ?_
  refine V.run 20 rfl ?_
  refine V.oinit rfl x_oi_0 ?_
  refine V.run 20 rfl ?_
  refine V.putF (w' := [.inr (4, [.ref 1, .null, .ref 13, .null, .ref 7, .ref 10, .int 0, .int 0]), .inr (2, [.ref 2, .ref 3, .ref 4, .ref 5, .ref 6]), .inl (false, 32 * B, f1), .inl (false, 32 * B, z0), .inl (true, 32 * B, z0), .inl (false, 32 * B, z0), .inl (false, 32 * B, z0), .inr (3, [.ref 8, .ref 9, .int 0, .int 0]), .inl (false, 16 * B, z0), .inl (false, 32 * B, f2), .inr (3, [.ref 11, .ref 12, .int 0, .int 0]), .inl (false, 16 * B, z0), .inl (false, 32 * B, f3), .inr (1, [.ref 14, .int 0]), .inl (false, 16 * B, z0), .inr (0, [.ref 1, .null, .null, .null, .int 0])]) rfl rfl rfl ?_
  refine V.run 20 rfl ?_
  refine V.putF (w' := [.inr (4, [.ref 1, .null, .ref 13, .null, .ref 7, .ref 10, .int 0, .int 0]), .inr (2, [.ref 2, .ref 3, .ref 4, .ref 5, .ref 6]), .inl (false, 32 * B, f1), .inl (false, 32 * B, z0), .inl (true, 32 * B, z0), .inl (false, 32 * B, z0), .inl (false, 32 * B, z0), .inr (3, [.ref 8, .ref 9, .int 0, .int 0]), .inl (false, 16 * B, z0), .inl (false, 32 * B, f2), .inr (3, [.ref 11, .ref 12, .int 0, .int 0]), .inl (false, 16 * B, z0), .inl (false, 32 * B, f3), .inr (1, [.ref 14, .int 0]), .inl (false, 16 * B, z0), .inr (0, [.ref 1, .ref 7, .null, .null, .int 0])]) rfl rfl rfl ?_
  refine V.run 20 rfl ?_
  refine V.mkI (1, 16) 16 [.inr (4, [.ref 1, .null, .ref 13, .null, .ref 7, .ref 10, .int 0, .int 0]), .inr (2, [.ref 2, .ref 3, .ref 4, .ref 5, .ref 6]), .inl (false, 32 * B, f1), .inl (false, 32 * B, z0), .inl (true, 32 * B, z0), .inl (false, 32 * B, z0), .inl (false, 32 * B, z0), .inr (3, [.ref 8, .ref 9, .int 0, .int 0]), .inl (false, 16 * B, z0), .inl (false, 32 * B, f2), .inr (3, [.ref 11, .ref 12, .int 0, .int 0]), .inl (false, 16 * B, z0), .inl (false, 32 * B, f3), .inr (1, [.ref 14, .int 0]), .inl (false, 16 * B, z0), .inr (0, [.ref 1, .ref 7, .null, .null, .int 0]), .inl (false, B, z0)] rfl rfl (by omega) ⟨by decide, by show 0 + B ≤ 16; omega⟩ ?_
  refine V.putF (w' := [.inr (4, [.ref 1, .null, .ref 13, .null, .ref 7, .ref 10, .int 0, .int 0]), .inr (2, [.ref 2, .ref 3, .ref 4, .ref 5, .ref 6]), .inl (false, 32 * B, f1), .inl (false, 32 * B, z0), .inl (true, 32 * B, z0), .inl (false, 32 * B, z0), .inl (false, 32 * B, z0), .inr (3, [.ref 8, .ref 9, .int 0, .int 0]), .inl (false, 16 * B, z0), .inl (false, 32 * B, f2), .inr (3, [.ref 11, .ref 12, .int 0, .int 0]), .inl (false, 16 * B, z0), .inl (false, 32 * B, f3), .inr (1, [.ref 14, .int 0]), .inl (false, 16 * B, z0), .inr (0, [.ref 1, .ref 7, .ref 16, .null, .int 0]), .inl (false, B, z0)]) rfl rfl rfl ?_
  refine V.run 20 rfl ?_
  refine V.mkZ (2, 32) 17 [.inr (4, [.ref 1, .null, .ref 13, .null, .ref 7, .ref 10, .int 0, .int 0]), .inr (2, [.ref 2, .ref 3, .ref 4, .ref 5, .ref 6]), .inl (false, 32 * B, f1), .inl (false, 32 * B, z0), .inl (true, 32 * B, z0), .inl (false, 32 * B, z0), .inl (false, 32 * B, z0), .inr (3, [.ref 8, .ref 9, .int 0, .int 0]), .inl (false, 16 * B, z0), .inl (false, 32 * B, f2), .inr (3, [.ref 11, .ref 12, .int 0, .int 0]), .inl (false, 16 * B, z0), .inl (false, 32 * B, f3), .inr (1, [.ref 14, .int 0]), .inl (false, 16 * B, z0), .inr (0, [.ref 1, .ref 7, .ref 16, .null, .int 0]), .inl (false, B, z0), .inl (true, B, z0)] rfl rfl (by omega) ⟨by decide, by show 16 + B ≤ 32; omega⟩ ?_
  refine V.putF (w' := [.inr (4, [.ref 1, .null, .ref 13, .null, .ref 7, .ref 10, .int 0, .int 0]), .inr (2, [.ref 2, .ref 3, .ref 4, .ref 5, .ref 6]), .inl (false, 32 * B, f1), .inl (false, 32 * B, z0), .inl (true, 32 * B, z0), .inl (false, 32 * B, z0), .inl (false, 32 * B, z0), .inr (3, [.ref 8, .ref 9, .int 0, .int 0]), .inl (false, 16 * B, z0), .inl (false, 32 * B, f2), .inr (3, [.ref 11, .ref 12, .int 0, .int 0]), .inl (false, 16 * B, z0), .inl (false, 32 * B, f3), .inr (1, [.ref 14, .int 0]), .inl (false, 16 * B, z0), .inr (0, [.ref 1, .ref 7, .ref 16, .ref 17, .int 0]), .inl (false, B, z0), .inl (true, B, z0)]) rfl rfl rfl ?_
  refine V.run 20 rfl ?_
  have loop : ∀ (m i : Nat) (f : Nat → Int32), i + m = B → (∀ x, x < i → f x = -1) → V none 0 (fun o w' => o = none ∧ ∃ f, w' = [.inr (4, [.ref 1, .null, .ref 13, .null, .ref 7, .ref 10, .int 0, .int 0]), .inr (2, [.ref 2, .ref 3, .ref 4, .ref 5, .ref 6]), .inl (false, 32 * B, f1), .inl (false, 32 * B, z0), .inl (true, 32 * B, z0), .inl (false, 32 * B, z0), .inl (false, 32 * B, z0), .inr (3, [.ref 8, .ref 9, .int 0, .int 0]), .inl (false, 16 * B, z0), .inl (false, 32 * B, f2), .inr (3, [.ref 11, .ref 12, .int 0, .int 0]), .inl (false, 16 * B, z0), .inl (false, 32 * B, f3), .inr (1, [.ref 14, .int 0]), .inl (false, 16 * B, z0), .inr (0, [.ref 1, .ref 7, .ref 16, .ref 17, .int 0]), .inl (false, B, f), .inl (true, B, z0)] ∧ ∀ x, x < B → f x = -1) (2, 32) 34 [(0, .ref 15), (1, .int (nI B)), (2, .ref 1), (3, .ref 7), (4, .int (nI i))] [.int (nI (B)), .int (nI i)] [.inr (4, [.ref 1, .null, .ref 13, .null, .ref 7, .ref 10, .int 0, .int 0]), .inr (2, [.ref 2, .ref 3, .ref 4, .ref 5, .ref 6]), .inl (false, 32 * B, f1), .inl (false, 32 * B, z0), .inl (true, 32 * B, z0), .inl (false, 32 * B, z0), .inl (false, 32 * B, z0), .inr (3, [.ref 8, .ref 9, .int 0, .int 0]), .inl (false, 16 * B, z0), .inl (false, 32 * B, f2), .inr (3, [.ref 11, .ref 12, .int 0, .int 0]), .inl (false, 16 * B, z0), .inl (false, 32 * B, f3), .inr (1, [.ref 14, .int 0]), .inl (false, 16 * B, z0), .inr (0, [.ref 1, .ref 7, .ref 16, .ref 17, .int 0]), .inl (false, B, f), .inl (true, B, z0)] := by
    intro m
    induction m with
    | zero =>
      intro i f hi hf
      refine V.brT rfl rfl (nI_le (by omega) (by omega)) ?_
      exact V.rv rfl ⟨rfl, f, rfl, fun x hx => hf x (by omega)⟩
    | succ m ih =>
      intro i f hi hf
      refine V.brF rfl rfl (nI_ge (show i < B by omega) (by omega)) ?_
      refine V.run 20 rfl ?_
      refine V.iast (w' := [.inr (4, [.ref 1, .null, .ref 13, .null, .ref 7, .ref 10, .int 0, .int 0]), .inr (2, [.ref 2, .ref 3, .ref 4, .ref 5, .ref 6]), .inl (false, 32 * B, f1), .inl (false, 32 * B, z0), .inl (true, 32 * B, z0), .inl (false, 32 * B, z0), .inl (false, 32 * B, z0), .inr (3, [.ref 8, .ref 9, .int 0, .int 0]), .inl (false, 16 * B, z0), .inl (false, 32 * B, f2), .inr (3, [.ref 11, .ref 12, .int 0, .int 0]), .inl (false, 16 * B, z0), .inl (false, 32 * B, f3), .inr (1, [.ref 14, .int 0]), .inl (false, 16 * B, z0), .inr (0, [.ref 1, .ref 7, .ref 16, .ref 17, .int 0]), .inl (false, B, (upd f i (-1))), .inl (true, B, z0)]) rfl rfl rfl (show i < B by omega) (by omega) rfl ?_
      refine V.run 20 rfl ?_
      rw [nI_add]
      refine ih (i + 1) _ (by omega) (fun x hx => ?_)
      by_cases q : x = i
      · subst q; exact upd_s
      · rw [upd_n q]; exact hf x (by omega)
  exact loop (B) 0 z0 (by omega) (fun x hx => absurd hx (Nat.not_lt_zero x))
theorem i_Lazy {z : Int32} (hz : (z < nI 1 ∧ B = 1) ∨ (nI 16 < z ∧ B = 16) ∨ (z = nI B ∧ 1 ≤ B ∧ B ≤ 16)) : Tot none kX4_init [.ref 0, .int z] [.inr (4, fN4)] (fun o w' => o = none ∧ ∃ f1 f2 f3 f4 f5, w' = [.inr (4, [.ref 1, .ref 15, .ref 13, .ref 18, .ref 7, .ref 10, .int 0, .int 0]), .inr (2, [.ref 2, .ref 3, .ref 4, .ref 5, .ref 6]), .inl (false, 32 * B, f1), .inl (false, 32 * B, z0), .inl (true, 32 * B, z0), .inl (false, 32 * B, z0), .inl (false, 32 * B, z0), .inr (3, [.ref 8, .ref 9, .int 0, .int 0]), .inl (false, 16 * B, z0), .inl (false, 32 * B, f2), .inr (3, [.ref 11, .ref 12, .int 0, .int 0]), .inl (false, 16 * B, z0), .inl (false, 32 * B, f3), .inr (1, [.ref 14, .int 0]), .inl (false, 16 * B, z0), .inr (0, [.ref 1, .ref 7, .ref 16, .ref 17, .int 0]), .inl (false, B, f4), .inl (true, B, z0), .inl (false, 16, f5)] ∧ (∀ x, x < 32 * B → f1 x = -1) ∧ (∀ x, x < 32 * B → f2 x = -1) ∧ (∀ x, x < 32 * B → f3 x = -1) ∧ (∀ x, x < B → f4 x = -1) ∧ ∀ x, x < 16 → f5 x = -1) := by
  have hB : B ≤ 16 := by rcases hz with h | h | h <;> omega
  have e0 : (if nI 1 < (if nI 16 < z then nI 16 else z) then (if nI 16 < z then nI 16 else z) else nI 1) = nI B := by
    rcases hz with ⟨h, rfl⟩ | ⟨h, rfl⟩ | ⟨rfl, h1, h2⟩
    · have h2 : ¬ nI 16 < z := fun q => i32_asy (i32_tr q h) (by decide)
      rw [if_neg h2, if_neg (i32_asy h)]
    · rw [if_pos h, if_pos (by decide)]
    · rw [if_neg (nI_nlt h2 (by omega))]
      by_cases q : B = 1
      · rw [q, if_neg (by decide)]
      · rw [if_pos (nI_lt (by omega) (by omega))]
  refine eX4_init ?_
  refine V.run 20 rfl ?_
  refine V.oinit rfl x_oi_50 ?_
  refine V.run 20 rfl ?_
  refine V.mmin rfl rfl ?_
  refine V.mmax rfl rfl ?_
  rw [e0]
  refine V.run 20 rfl ?_
  rw [pk_mul, Nat.mul_comm B 32]
  refine V.mkO (1, 5) 1 [.null, .null, .null, .null, .null] [.inr (4, [.null, .null, .null, .null, .null, .null, .int 0, .int 0]), .inr (2, [.null, .null, .null, .null, .null])] rfl ?_
  refine V.run 20 rfl ?_
  refine V.ci rfl (i_Store hB) rfl ?_
  rintro _ _ ⟨rfl, f1, rfl, h1⟩
  refine V.putF (w' := [.inr (4, [.ref 1, .null, .null, .null, .null, .null, .int 0, .int 0]), .inr (2, [.ref 2, .ref 3, .ref 4, .ref 5, .ref 6]), .inl (false, 32 * B, f1), .inl (false, 32 * B, z0), .inl (true, 32 * B, z0), .inl (false, 32 * B, z0), .inl (false, 32 * B, z0)]) rfl rfl rfl ?_
  refine V.run 20 rfl ?_
  refine V.mkO (7, 2569) 7 [.null, .null, .int 0, .int 0] [.inr (4, [.ref 1, .null, .null, .null, .null, .null, .int 0, .int 0]), .inr (2, [.ref 2, .ref 3, .ref 4, .ref 5, .ref 6]), .inl (false, 32 * B, f1), .inl (false, 32 * B, z0), .inl (true, 32 * B, z0), .inl (false, 32 * B, z0), .inl (false, 32 * B, z0), .inr (3, [.null, .null, .int 0, .int 0])] rfl ?_
  refine V.run 20 rfl ?_
  refine V.ci rfl (i_Walk1 hB) rfl ?_
  rintro _ _ ⟨rfl, f2, rfl, h2⟩
  refine V.putF (w' := [.inr (4, [.ref 1, .null, .null, .null, .ref 7, .null, .int 0, .int 0]), .inr (2, [.ref 2, .ref 3, .ref 4, .ref 5, .ref 6]), .inl (false, 32 * B, f1), .inl (false, 32 * B, z0), .inl (true, 32 * B, z0), .inl (false, 32 * B, z0), .inl (false, 32 * B, z0), .inr (3, [.ref 8, .ref 9, .int 0, .int 0]), .inl (false, 16 * B, z0), .inl (false, 32 * B, f2)]) rfl rfl rfl ?_
  refine V.run 20 rfl ?_
  refine V.mkO (10, 3341) 10 [.null, .null, .int 0, .int 0] [.inr (4, [.ref 1, .null, .null, .null, .ref 7, .null, .int 0, .int 0]), .inr (2, [.ref 2, .ref 3, .ref 4, .ref 5, .ref 6]), .inl (false, 32 * B, f1), .inl (false, 32 * B, z0), .inl (true, 32 * B, z0), .inl (false, 32 * B, z0), .inl (false, 32 * B, z0), .inr (3, [.ref 8, .ref 9, .int 0, .int 0]), .inl (false, 16 * B, z0), .inl (false, 32 * B, f2), .inr (3, [.null, .null, .int 0, .int 0])] rfl ?_
  refine V.run 20 rfl ?_
  refine V.ci rfl (i_Walk2 hB) rfl ?_
  rintro _ _ ⟨rfl, f3, rfl, h3⟩
  refine V.putF (w' := [.inr (4, [.ref 1, .null, .null, .null, .ref 7, .ref 10, .int 0, .int 0]), .inr (2, [.ref 2, .ref 3, .ref 4, .ref 5, .ref 6]), .inl (false, 32 * B, f1), .inl (false, 32 * B, z0), .inl (true, 32 * B, z0), .inl (false, 32 * B, z0), .inl (false, 32 * B, z0), .inr (3, [.ref 8, .ref 9, .int 0, .int 0]), .inl (false, 16 * B, z0), .inl (false, 32 * B, f2), .inr (3, [.ref 11, .ref 12, .int 0, .int 0]), .inl (false, 16 * B, z0), .inl (false, 32 * B, f3)]) rfl rfl rfl ?_
  refine V.run 20 rfl ?_
  refine V.mkO (13, 4111) 13 [.null, .int 0] [.inr (4, [.ref 1, .null, .null, .null, .ref 7, .ref 10, .int 0, .int 0]), .inr (2, [.ref 2, .ref 3, .ref 4, .ref 5, .ref 6]), .inl (false, 32 * B, f1), .inl (false, 32 * B, z0), .inl (true, 32 * B, z0), .inl (false, 32 * B, z0), .inl (false, 32 * B, z0), .inr (3, [.ref 8, .ref 9, .int 0, .int 0]), .inl (false, 16 * B, z0), .inl (false, 32 * B, f2), .inr (3, [.ref 11, .ref 12, .int 0, .int 0]), .inl (false, 16 * B, z0), .inl (false, 32 * B, f3), .inr (1, [.null, .int 0])] rfl ?_
  refine V.run 20 rfl ?_
  refine V.idiv rfl (by decide) ?_
  rw [pk_div (by omega) (by omega) (by omega), show 32 * B / 2 = 16 * B by omega]
  refine V.ci rfl (i_Line hB) rfl ?_
  rintro _ _ ⟨rfl, rfl⟩
  refine V.putF (w' := [.inr (4, [.ref 1, .null, .ref 13, .null, .ref 7, .ref 10, .int 0, .int 0]), .inr (2, [.ref 2, .ref 3, .ref 4, .ref 5, .ref 6]), .inl (false, 32 * B, f1), .inl (false, 32 * B, z0), .inl (true, 32 * B, z0), .inl (false, 32 * B, z0), .inl (false, 32 * B, z0), .inr (3, [.ref 8, .ref 9, .int 0, .int 0]), .inl (false, 16 * B, z0), .inl (false, 32 * B, f2), .inr (3, [.ref 11, .ref 12, .int 0, .int 0]), .inl (false, 16 * B, z0), .inl (false, 32 * B, f3), .inr (1, [.ref 14, .int 0]), .inl (false, 16 * B, z0)]) rfl rfl rfl ?_
  refine V.run 20 rfl ?_
  refine V.mkO (15, 4372) 15 [.null, .null, .null, .null, .int 0] [.inr (4, [.ref 1, .null, .ref 13, .null, .ref 7, .ref 10, .int 0, .int 0]), .inr (2, [.ref 2, .ref 3, .ref 4, .ref 5, .ref 6]), .inl (false, 32 * B, f1), .inl (false, 32 * B, z0), .inl (true, 32 * B, z0), .inl (false, 32 * B, z0), .inl (false, 32 * B, z0), .inr (3, [.ref 8, .ref 9, .int 0, .int 0]), .inl (false, 16 * B, z0), .inl (false, 32 * B, f2), .inr (3, [.ref 11, .ref 12, .int 0, .int 0]), .inl (false, 16 * B, z0), .inl (false, 32 * B, f3), .inr (1, [.ref 14, .int 0]), .inl (false, 16 * B, z0), .inr (0, [.null, .null, .null, .null, .int 0])] rfl ?_
  refine V.run 20 rfl ?_
  refine V.ci rfl (i_Blocks hB) rfl ?_
  rintro _ _ ⟨rfl, f4, rfl, h4⟩
  refine V.putF (w' := [.inr (4, [.ref 1, .ref 15, .ref 13, .null, .ref 7, .ref 10, .int 0, .int 0]), .inr (2, [.ref 2, .ref 3, .ref 4, .ref 5, .ref 6]), .inl (false, 32 * B, f1), .inl (false, 32 * B, z0), .inl (true, 32 * B, z0), .inl (false, 32 * B, z0), .inl (false, 32 * B, z0), .inr (3, [.ref 8, .ref 9, .int 0, .int 0]), .inl (false, 16 * B, z0), .inl (false, 32 * B, f2), .inr (3, [.ref 11, .ref 12, .int 0, .int 0]), .inl (false, 16 * B, z0), .inl (false, 32 * B, f3), .inr (1, [.ref 14, .int 0]), .inl (false, 16 * B, z0), .inr (0, [.ref 1, .ref 7, .ref 16, .ref 17, .int 0]), .inl (false, B, f4), .inl (true, B, z0)]) rfl rfl rfl ?_
  refine V.run 20 rfl ?_
  refine V.mkI (18, 4420) 18 [.inr (4, [.ref 1, .ref 15, .ref 13, .null, .ref 7, .ref 10, .int 0, .int 0]), .inr (2, [.ref 2, .ref 3, .ref 4, .ref 5, .ref 6]), .inl (false, 32 * B, f1), .inl (false, 32 * B, z0), .inl (true, 32 * B, z0), .inl (false, 32 * B, z0), .inl (false, 32 * B, z0), .inr (3, [.ref 8, .ref 9, .int 0, .int 0]), .inl (false, 16 * B, z0), .inl (false, 32 * B, f2), .inr (3, [.ref 11, .ref 12, .int 0, .int 0]), .inl (false, 16 * B, z0), .inl (false, 32 * B, f3), .inr (1, [.ref 14, .int 0]), .inl (false, 16 * B, z0), .inr (0, [.ref 1, .ref 7, .ref 16, .ref 17, .int 0]), .inl (false, B, f4), .inl (true, B, z0), .inl (false, 16, z0)] rfl (show _ = nI 16 from rfl) (by omega) ⟨by decide, by decide⟩ ?_
  refine V.putF (w' := [.inr (4, [.ref 1, .ref 15, .ref 13, .ref 18, .ref 7, .ref 10, .int 0, .int 0]), .inr (2, [.ref 2, .ref 3, .ref 4, .ref 5, .ref 6]), .inl (false, 32 * B, f1), .inl (false, 32 * B, z0), .inl (true, 32 * B, z0), .inl (false, 32 * B, z0), .inl (false, 32 * B, z0), .inr (3, [.ref 8, .ref 9, .int 0, .int 0]), .inl (false, 16 * B, z0), .inl (false, 32 * B, f2), .inr (3, [.ref 11, .ref 12, .int 0, .int 0]), .inl (false, 16 * B, z0), .inl (false, 32 * B, f3), .inr (1, [.ref 14, .int 0]), .inl (false, 16 * B, z0), .inr (0, [.ref 1, .ref 7, .ref 16, .ref 17, .int 0]), .inl (false, B, f4), .inl (true, B, z0), .inl (false, 16, z0)]) rfl rfl rfl ?_
  refine V.run 20 rfl ?_
  have loop : ∀ (m i : Nat) (f : Nat → Int32), i + m = 16 → (∀ x, x < i → f x = -1) → V none 50 (fun o w' => o = none ∧ ∃ f1 f2 f3 f4 f5, w' = [.inr (4, [.ref 1, .ref 15, .ref 13, .ref 18, .ref 7, .ref 10, .int 0, .int 0]), .inr (2, [.ref 2, .ref 3, .ref 4, .ref 5, .ref 6]), .inl (false, 32 * B, f1), .inl (false, 32 * B, z0), .inl (true, 32 * B, z0), .inl (false, 32 * B, z0), .inl (false, 32 * B, z0), .inr (3, [.ref 8, .ref 9, .int 0, .int 0]), .inl (false, 16 * B, z0), .inl (false, 32 * B, f2), .inr (3, [.ref 11, .ref 12, .int 0, .int 0]), .inl (false, 16 * B, z0), .inl (false, 32 * B, f3), .inr (1, [.ref 14, .int 0]), .inl (false, 16 * B, z0), .inr (0, [.ref 1, .ref 7, .ref 16, .ref 17, .int 0]), .inl (false, B, f4), .inl (true, B, z0), .inl (false, 16, f5)] ∧ (∀ x, x < 32 * B → f1 x = -1) ∧ (∀ x, x < 32 * B → f2 x = -1) ∧ (∀ x, x < 32 * B → f3 x = -1) ∧ (∀ x, x < B → f4 x = -1) ∧ ∀ x, x < 16 → f5 x = -1) (18, 4420) 105 [(0, .ref 0), (1, .int z), (2, .int (nI B)), (3, .int (nI (32 * B))), (4, .int (nI i))] [.int (nI 16), .int (nI i)] [.inr (4, [.ref 1, .ref 15, .ref 13, .ref 18, .ref 7, .ref 10, .int 0, .int 0]), .inr (2, [.ref 2, .ref 3, .ref 4, .ref 5, .ref 6]), .inl (false, 32 * B, f1), .inl (false, 32 * B, z0), .inl (true, 32 * B, z0), .inl (false, 32 * B, z0), .inl (false, 32 * B, z0), .inr (3, [.ref 8, .ref 9, .int 0, .int 0]), .inl (false, 16 * B, z0), .inl (false, 32 * B, f2), .inr (3, [.ref 11, .ref 12, .int 0, .int 0]), .inl (false, 16 * B, z0), .inl (false, 32 * B, f3), .inr (1, [.ref 14, .int 0]), .inl (false, 16 * B, z0), .inr (0, [.ref 1, .ref 7, .ref 16, .ref 17, .int 0]), .inl (false, B, f4), .inl (true, B, z0), .inl (false, 16, f)] := by
    intro m
    induction m with
    | zero =>
      intro i f hi hf
      refine V.brT rfl rfl (nI_le (by omega) (by omega)) ?_
      exact V.rv rfl ⟨rfl, f1, f2, f3, f4, f, rfl, h1, h2, h3, h4, fun x hx => hf x (by omega)⟩
    | succ m ih =>
      intro i f hi hf
      refine V.brF rfl rfl (nI_ge (show i < 16 by omega) (by omega)) ?_
      refine V.run 20 rfl ?_
      refine V.iast (w' := [.inr (4, [.ref 1, .ref 15, .ref 13, .ref 18, .ref 7, .ref 10, .int 0, .int 0]), .inr (2, [.ref 2, .ref 3, .ref 4, .ref 5, .ref 6]), .inl (false, 32 * B, f1), .inl (false, 32 * B, z0), .inl (true, 32 * B, z0), .inl (false, 32 * B, z0), .inl (false, 32 * B, z0), .inr (3, [.ref 8, .ref 9, .int 0, .int 0]), .inl (false, 16 * B, z0), .inl (false, 32 * B, f2), .inr (3, [.ref 11, .ref 12, .int 0, .int 0]), .inl (false, 16 * B, z0), .inl (false, 32 * B, f3), .inr (1, [.ref 14, .int 0]), .inl (false, 16 * B, z0), .inr (0, [.ref 1, .ref 7, .ref 16, .ref 17, .int 0]), .inl (false, B, f4), .inl (true, B, z0), .inl (false, 16, (upd f i (-1)))]) rfl rfl rfl (show i < 16 by omega) (by omega) rfl ?_
      refine V.run 20 rfl ?_
      rw [nI_add]
      refine ih (i + 1) _ (by omega) (fun x hx => ?_)
      by_cases q : x = i
      · subst q; exact upd_s
      · rw [upd_n q]; exact hf x (by omega)
  exact loop 16 0 z0 (by omega) (fun x hx => absurd hx (Nat.not_lt_zero x))
end CC
