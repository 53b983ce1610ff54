def x_br (ins : Instr) (st : List Value) : Option (Prop × List Value) := match ins with
  | .ifCond c _ => match st with
    | .int x :: r => match c with
      | .eq => some (x = 0, r)
      | .ne => some (¬ x = 0, r)
      | .lt => some (x < 0, r)
      | .ge => some (0 ≤ x, r)
      | .gt => some (0 < x, r)
      | .le => some (x ≤ 0, r)
    | _ => none
  | .if_icmp c _ => match st with
    | .int y :: .int x :: r => match c with
      | .eq => some (x = y, r)
      | .ne => some (¬ x = y, r)
      | .lt => some (x < y, r)
      | .ge => some (y ≤ x, r)
      | .gt => some (y < x, r)
      | .le => some (x ≤ y, r)
    | _ => none
  | _ => none
section VB
variable {X : Option (Nat × (Nat → Int32))} {k : Nat} {Q : Option Value → xW → Prop} {n : Nat × Nat} {pc nx a b : Nat} {ls : xL} {st : List Value} {w : xW} {ins : Instr}
theorem V.br {P : Prop} {r : List Value} (hd : xm_i k pc = some (ins, nx, a, b)) (hs : x_br ins st = some (P, r)) (kt : P → V X k Q n a ls r w) (kf : ¬ P → V X k Q n nx ls r w) : V X k Q n pc ls st w := by
  intro p l e s m args below meth c D cI cZ A QQ ad0 n0 C hR ad H locs La hG hl
  obtain ⟨hdc, hnx, hex⟩ := C.2.2.2.2.2.2.2.2.2 pc _ hd
  dsimp only at hdc hnx hex
  have kt := fun h => kt h p l e s m args below meth c D cI cZ A QQ ad0 n0 C hR ad H locs La hG hl
  have kf := fun h => kf h p l e s m args below meth c D cI cZ A QQ ad0 n0 C hR ad H locs La hG hl
  subst hnx
  unfold x_br at hs
  split at hs
  · split at hs
    · split at hs
      · cases hs; exact lv_if_eq C.1 C.2.1 hdc hex kt kf
      · cases hs; exact lv_if_ne C.1 C.2.1 hdc hex kt (fun h => kf (fun q => q h))
      · cases hs; exact lv_if_lt C.1 C.2.1 hdc hex kt kf
      · cases hs; exact lv_if_ge C.1 C.2.1 hdc hex kt kf
      · cases hs; exact lv_if_gt C.1 C.2.1 hdc hex kt kf
      · cases hs; exact lv_if_le C.1 C.2.1 hdc hex kt kf
    · cases hs
  · split at hs
    · split at hs
      · cases hs; exact lv_icmp_eq C.1 C.2.1 hdc hex kt kf
      · cases hs; exact lv_icmp_ne C.1 C.2.1 hdc hex kt (fun h => kf (fun q => q h))
      · cases hs; exact lv_icmp_lt C.1 C.2.1 hdc hex kt kf
      · cases hs; exact lv_icmp_ge C.1 C.2.1 hdc hex kt kf
      · cases hs; exact lv_icmp_gt C.1 C.2.1 hdc hex kt kf
      · cases hs; exact lv_icmp_le C.1 C.2.1 hdc hex kt kf
    · cases hs
  · cases hs
theorem V.idiv {x y : Int32} (hd : xm_i k pc = some (.idiv, nx, a, b)) (hy : ¬ y = 0) (kk : V X k Q n nx ls (.int (x / y) :: st) w) : V X k Q n pc ls (.int y :: .int x :: st) w :=
  V.keep hd kk (fun ad C hdc hex q => lv_idiv C.1 C.2.1 hdc hy q)
theorem V.irem {x y : Int32} (hd : xm_i k pc = some (.irem, nx, a, b)) (hy : ¬ y = 0) (kk : V X k Q n nx ls (.int (x - x / y * y) :: st) w) : V X k Q n pc ls (.int y :: .int x :: st) w :=
  V.keep hd kk (fun ad C hdc hex q => lv_irem C.1 C.2.1 hdc hy q)
theorem V.iald {o m j : Nat} {f : Nat → Int32} {i : Int32} (hd : xm_i k pc = some (.iaload, nx, a, b)) (hw : w[o]? = some (.inl (false, m, f))) (hi : i = nI j) (hj : j < m) (hm : m < 2 ^ 31) (kk : V X k Q n nx ls (.int (f j) :: st) w) : V X k Q n pc ls (.int i :: .ref o :: st) w := by
  intro p l e s mm args below meth c D cI cZ A QQ ad0 n0 C hR ad H locs La hG hl
  obtain ⟨hdc, hnx, hex⟩ := C.2.2.2.2.2.2.2.2.2 pc _ hd
  dsimp only at hdc hnx hex
  subst hnx; subst hi
  have kk := kk p l e s mm args below meth c D cI cZ A QQ ad0 n0 C hR ad H locs La hG hl
  refine va_iald C.1 C.2.1 C.2.2.2.2.2.1 hG.1 o 0 (x_rl_at hw) rfl (vp_in_nI hj hm) hdc ?_
  rw [nI_clamp (by omega)]
  exact kk
theorem V.zald {o m j : Nat} {f : Nat → Int32} {i : Int32} (hd : xm_i k pc = some (.baload, nx, a, b)) (hw : w[o]? = some (.inl (true, m, f))) (hi : i = nI j) (hj : j < m) (hm : m < 2 ^ 31) (kk : V X k Q n nx ls (.int (f j) :: st) w) : V X k Q n pc ls (.int i :: .ref o :: st) w := by
  intro p l e s mm args below meth c D cI cZ A QQ ad0 n0 C hR ad H locs La hG hl
  obtain ⟨hdc, hnx, hex⟩ := C.2.2.2.2.2.2.2.2.2 pc _ hd
  dsimp only at hdc hnx hex
  subst hnx; subst hi
  have kk := kk p l e s mm args below meth c D cI cZ A QQ ad0 n0 C hR ad H locs La hG hl
  refine va_zald C.1 C.2.1 C.2.2.2.2.2.1 hG.1 o 1 (x_rl_at hw) rfl (vp_in_nI hj hm) hdc ?_
  rw [nI_clamp (by omega)]
  exact kk
/-- a world with one cell changed -/
theorem x_G.set {D : va_G} {cI cZ : ClassId} {A : Nat → Prop} {s : State} {ad0 : Nat → Nat} {n0 : Nat} {ad : Nat → Nat} {H H1 : Heap} {locs locs1 : List Loc} {o : Nat} {e : xC} {w' : xW} (hG : x_G X k D cI cZ A s ad0 n0 ad w H locs) (hw : w.set o e = w')
    (h1 : va_P D xcl ((x_rl cI cZ ad 0 w).set o (ad o, x_trE cI cZ ad e)) H1) (h2 : va_D A ((x_rl cI cZ ad 0 w).set o (ad o, x_trE cI cZ ad e))) (h3 : va_S A s.heap H1 locs1) : x_G X k D cI cZ A s ad0 n0 ad w' H1 locs1 := by
  subst hw
  rw [x_rl_put] at h1 h2
  exact ⟨h1, h2, h3, hG.2.2.2.1, hG.2.2.2.2.1, by rw [List.length_set]; exact hG.2.2.2.2.2.1, hG.2.2.2.2.2.2⟩
theorem V.iast {o m j : Nat} {f : Nat → Int32} {i x : Int32} {w' : xW} (hd : xm_i k pc = some (.iastore, nx, a, b)) (hw : w[o]? = some (.inl (false, m, f))) (hi : i = nI j) (hj : j < m) (hm : m < 2 ^ 31) (hw' : w.set o (.inl (false, m, upd f j x)) = w') (kk : V X k Q n nx ls st w') : V X k Q n pc ls (.int x :: .int i :: .ref o :: st) w := by
  intro p l e s mm args below meth c D cI cZ A QQ ad0 n0 C hR ad H locs La hG hl
  obtain ⟨hdc, hnx, hex⟩ := C.2.2.2.2.2.2.2.2.2 pc _ hd
  dsimp only at hdc hnx hex
  subst hnx; subst hi
  refine va_iast C.1 C.2.1 C.2.2.2.2.2.1 hG.1 hG.2.1 hG.2.2.1 o 0 (x_rl_at hw) rfl (vp_in_nI hj hm) hdc (fun H1 locs1 h1 h2 h3 => ?_)
  rw [nI_clamp (by omega)] at h1 h2
  exact kk p l e s mm args below meth c D cI cZ A QQ ad0 n0 C hR ad H1 locs1 La (hG.set hw' h1 h2 h3) hl
theorem V.zast {o m j : Nat} {f : Nat → Int32} {i x : Int32} {w' : xW} (hd : xm_i k pc = some (.bastore, nx, a, b)) (hw : w[o]? = some (.inl (true, m, f))) (hi : i = nI j) (hj : j < m) (hm : m < 2 ^ 31) (hx : x = 0 ∨ x = 1) (hw' : w.set o (.inl (true, m, upd f j x)) = w') (kk : V X k Q n nx ls st w') : V X k Q n pc ls (.int x :: .int i :: .ref o :: st) w := by
  intro p l e s mm args below meth c D cI cZ A QQ ad0 n0 C hR ad H locs La hG hl
  obtain ⟨hdc, hnx, hex⟩ := C.2.2.2.2.2.2.2.2.2 pc _ hd
  dsimp only at hdc hnx hex
  subst hnx; subst hi
  have hx2 : vp_nar .boolean x = x := by rcases hx with rfl | rfl <;> decide
  refine va_zast C.1 C.2.1 C.2.2.2.2.2.1 hG.1 hG.2.1 hG.2.2.1 o 1 (x_rl_at hw) rfl (vp_in_nI hj hm) hdc (fun H1 locs1 h1 h2 h3 => ?_)
  rw [nI_clamp (by omega), hx2] at h1 h2
  exact kk p l e s mm args below meth c D cI cZ A QQ ad0 n0 C hR ad H1 locs1 La (hG.set hw' h1 h2 h3) hl
/-- the script -/
theorem V.sld {L j : Nat} {xs : Nat → Int32} {i : Int32} (hd : xm_i k pc = some (.iaload, nx, a, b)) (hi : i = nI j) (hj : j < L) (hm : L < 2 ^ 31) (kk : V (some (L, xs)) k Q n nx ls (.int (xs j) :: st) w) : V (some (L, xs)) k Q n pc ls (.int i :: .ref 999 :: st) w := by
  intro p l e s mm args below meth c D cI cZ A QQ ad0 n0 C hR ad H locs La hG hl
  obtain ⟨hdc, hnx, hex⟩ := C.2.2.2.2.2.2.2.2.2 pc _ hd
  dsimp only at hdc hnx hex
  subst hnx; subst hi
  have kk := kk p l e s mm args below meth c D cI cZ A QQ ad0 n0 C hR ad H locs La hG hl
  obtain ⟨q1, q2, q3⟩ := hG.2.2.2.2.2.2
  refine va_sld C.1 C.2.1 q1 q2 q3 hG.2.2.1 (vp_in_nI hj hm) hdc ?_
  rw [nI_clamp (by omega)]
  exact kk
theorem V.slen {L : Nat} {xs : Nat → Int32} (hd : xm_i k pc = some (.arraylength, nx, a, b)) (kk : V (some (L, xs)) k Q n nx ls (.int (nI L) :: st) w) : V (some (L, xs)) k Q n pc ls (.ref 999 :: st) w := by
  intro p l e s mm args below meth c D cI cZ A QQ ad0 n0 C hR ad H locs La hG hl
  obtain ⟨hdc, hnx, hex⟩ := C.2.2.2.2.2.2.2.2.2 pc _ hd
  dsimp only at hdc hnx hex
  subst hnx
  have kk := kk p l e s mm args below meth c D cI cZ A QQ ad0 n0 C hR ad H locs La hG hl
  obtain ⟨q1, q2, q3⟩ := hG.2.2.2.2.2.2
  exact va_slen C.1 C.2.1 q1 q2 q3 hG.2.2.1 hdc kk
/-- switches -/
theorem V.tableIn {dflt lo hi off : Int} {offs : Array Int} {x : Int32} {tgt : Nat} (hd : xm_i k pc = some (.tableswitch dflt lo hi offs, nx, a, b)) (h1 : ¬ x.toInt < lo) (h2 : ¬ hi < x.toInt) (ho : offs[(x.toInt - lo).toNat]? = some off) (ht : (pc : Int) + off = (tgt : Int)) (kk : V X k Q n tgt ls st w) : V X k Q n pc ls (.int x :: st) w := by
  intro p l e s mm args below meth c D cI cZ A QQ ad0 n0 C hR ad H locs La hG hl
  obtain ⟨hdc, hnx, hex⟩ := C.2.2.2.2.2.2.2.2.2 pc _ hd
  exact lv_tableIn C.1 C.2.1 hdc h1 h2 ho ht (kk p l e s mm args below meth c D cI cZ A QQ ad0 n0 C hR ad H locs La hG hl)
theorem V.tableOut {dflt lo hi : Int} {offs : Array Int} {x : Int32} {tgt : Nat} (hd : xm_i k pc = some (.tableswitch dflt lo hi offs, nx, a, b)) (h : x.toInt < lo ∨ hi < x.toInt) (ht : (pc : Int) + dflt = (tgt : Int)) (kk : V X k Q n tgt ls st w) : V X k Q n pc ls (.int x :: st) w := by
  intro p l e s mm args below meth c D cI cZ A QQ ad0 n0 C hR ad H locs La hG hl
  obtain ⟨hdc, hnx, hex⟩ := C.2.2.2.2.2.2.2.2.2 pc _ hd
  exact lv_tableOut C.1 C.2.1 hdc h ht (kk p l e s mm args below meth c D cI cZ A QQ ad0 n0 C hR ad H locs La hG hl)
theorem V.lookup {dflt off : Int} {ps : Array (Int × Int)} {x : Int32} {tgt : Nat} (hd : xm_i k pc = some (.lookupswitch dflt ps, nx, a, b)) (hp : (ps.toList.zip (ps.toList.drop 1)).all (fun (a, next) => a.1 < next.1) = true) (ho : Op.lookupswitch.offset ps.toList dflt x.toInt = off) (ht : (pc : Int) + off = (tgt : Int)) (kk : V X k Q n tgt ls st w) : V X k Q n pc ls (.int x :: st) w := by
  intro p l e s mm args below meth c D cI cZ A QQ ad0 n0 C hR ad H locs La hG hl
  obtain ⟨hdc, hnx, hex⟩ := C.2.2.2.2.2.2.2.2.2 pc _ hd
  exact lv_lookup C.1 C.2.1 hdc hp ho ht (kk p l e s mm args below meth c D cI cZ A QQ ad0 n0 C hR ad H locs La hG hl)
/-- ends -/
theorem V.ret {v : Option Value} (hd : xm_i k pc = some (ins, nx, a, b)) (hr : x_ret (xm_r k) v ins) (hn : n.1 ≤ (xm_R k).cells ∧ n.2 ≤ (xm_R k).slots) (hq : Q v w) : V X k Q n pc ls v.toList w := by
  intro p l e s mm args below meth c D cI cZ A QQ ad0 n0 C hR ad H locs La hG hl
  obtain ⟨hdc, hnx, hex⟩ := C.2.2.2.2.2.2.2.2.2 pc _ hd
  dsimp only at hdc
  have hlen : x_len ins b = 1 := by
    unfold x_ret at hr
    split at hr <;> first | rfl | cases hr
  rw [hlen] at hdc
  refine W.widen hn.1 hn.2 ?_
  have h := hR v w ad H locs La pc ins hr hdc hq hG
  cases v <;> exact h
theorem V.reti {x : Int32} (hd : xm_i k pc = some (.ireturn, nx, a, b)) (hr : xm_r k = some .int) (hn : n.1 ≤ (xm_R k).cells ∧ n.2 ≤ (xm_R k).slots) (hq : Q (some (.int x)) w) : V X k Q n pc ls [.int x] w :=
  V.ret (v := some (.int x)) hd (by rw [hr]; trivial) hn hq
theorem V.retz {x : Int32} (hd : xm_i k pc = some (.ireturn, nx, a, b)) (hr : xm_r k = some .boolean) (hn : n.1 ≤ (xm_R k).cells ∧ n.2 ≤ (xm_R k).slots) (hx : x = 0 ∨ x = 1) (hq : Q (some (.int x)) w) : V X k Q n pc ls [.int x] w :=
  V.ret (v := some (.int x)) hd (by rw [hr]; rcases hx with rfl | rfl <;> rfl) hn hq
theorem V.retl {x : Int64} (hd : xm_i k pc = some (.lreturn, nx, a, b)) (hr : xm_r k = some .long) (hn : n.1 ≤ (xm_R k).cells ∧ n.2 ≤ (xm_R k).slots) (hq : Q (some (.long x)) w) : V X k Q n pc ls [.long x] w :=
  V.ret (v := some (.long x)) hd (by rw [hr]; trivial) hn hq
theorem V.retv (hd : xm_i k pc = some (.return_, nx, a, b)) (hr : xm_r k = none) (hn : n.1 ≤ (xm_R k).cells ∧ n.2 ≤ (xm_R k).slots) (hq : Q none w) : V X k Q n pc ls [] w :=
  V.ret (v := none) hd (by rw [hr]; trivial) hn hq
/-- fewer locals -/
theorem V.locs {ls' : xL} (h : ∀ q ∈ ls', q ∈ ls) (kk : V X k Q n pc ls' st w) : V X k Q n pc ls st w := by
  intro p l e s mm args below meth c D cI cZ A QQ ad0 n0 C hR ad H locs La hG hl
  refine kk p l e s mm args below meth c D cI cZ A QQ ad0 n0 C hR ad H locs La hG ⟨hl.1, hl.2.1, fun q hq => hl.2.2 q ?_⟩
  obtain ⟨z, hz, rfl⟩ := List.mem_map.mp hq
  exact List.mem_map.mpr ⟨z, h z hz, rfl⟩
/-- an end that says more -/
theorem V.mono {Q' : Option Value → xW → Prop} (h : ∀ v w, Q' v w → Q v w) (kk : V X k Q' n pc ls st w) : V X k Q n pc ls st w := by
  intro p l e s mm args below meth c D cI cZ A QQ ad0 n0 C hR ad H locs La hG hl
  exact kk p l e s mm args below meth c D cI cZ A QQ ad0 n0 C (fun v w ad H locs La pc ins h1 h2 h3 h4 => hR v w ad H locs La pc ins h1 h2 (h v w h3) h4) ad H locs La hG hl
end VB
