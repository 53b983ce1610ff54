/-- what a simple instruction does: the next pc, locals, stack; none: not a simple one -/
def x_sp (ins : Instr) (nx a b : Nat) (ls : xL) (st : List Value) (w : xW) : Option (Nat × xL × List Value) := match ins with
  | .iconst i => x_cif i fun z => some (nx, ls, .int z :: st)
  | .bipush i => x_cif i fun z => some (nx, ls, .int z :: st)
  | .sipush i => x_cif i fun z => some (nx, ls, .int z :: st)
  | .lconst i => some (nx, ls, .long (lN i.val) :: st)
  | .ldc2_w _ => x_cLf a fun z => some (nx, ls, .long z :: st)
  | .iload_n i => match x_lk i.val ls with
    | some (.int x) => some (nx, ls, .int x :: st)
    | _ => none
  | .iload i => match x_lk i ls with
    | some (.int x) => some (nx, ls, .int x :: st)
    | _ => none
  | .lload_n i => match x_lk i.val ls with
    | some (.long x) => some (nx, ls, .long x :: st)
    | _ => none
  | .lload i => match x_lk i ls with
    | some (.long x) => some (nx, ls, .long x :: st)
    | _ => none
  | .aload_n i => match x_lk i.val ls with
    | some (.ref x) => some (nx, ls, .ref x :: st)
    | _ => none
  | .aload i => match x_lk i ls with
    | some (.ref x) => some (nx, ls, .ref x :: st)
    | _ => none
  | .istore_n i => match st with
    | .int x :: r => x_nf (x_st i.val (.int x) ls) fun ls' => some (nx, ls', r)
    | _ => none
  | .istore i => match st with
    | .int x :: r => x_nf (x_st i (.int x) ls) fun ls' => some (nx, ls', r)
    | _ => none
  | .lstore_n i => match st with
    | .long x :: r => x_nf (x_st i.val (.long x) ls) fun ls' => some (nx, ls', r)
    | _ => none
  | .lstore i => match st with
    | .long x :: r => x_nf (x_st i (.long x) ls) fun ls' => some (nx, ls', r)
    | _ => none
  | .astore_n i => match st with
    | .ref x :: r => x_nf (x_st i.val (.ref x) ls) fun ls' => some (nx, ls', r)
    | _ => none
  | .astore i => match st with
    | .ref x :: r => x_nf (x_st i (.ref x) ls) fun ls' => some (nx, ls', r)
    | _ => none
  | .iinc i d => match x_lk i ls with
    | some (.int x) => x_cif d fun z => x_nf (x_st i (.int (x + z)) ls) fun ls' => some (nx, ls', st)
    | _ => none
  | .iadd => match st with
    | .int y :: .int x :: r => some (nx, ls, .int (x + y) :: r)
    | _ => none
  | .isub => match st with
    | .int y :: .int x :: r => some (nx, ls, .int (x - y) :: r)
    | _ => none
  | .imul => match st with
    | .int y :: .int x :: r => some (nx, ls, .int (x * y) :: r)
    | _ => none
  | .iand => match st with
    | .int y :: .int x :: r => some (nx, ls, .int (x &&& y) :: r)
    | _ => none
  | .ishl => match st with
    | .int y :: .int x :: r => some (nx, ls, .int (x <<< (y &&& 31)) :: r)
    | _ => none
  | .ishr => match st with
    | .int y :: .int x :: r => some (nx, ls, .int (x >>> (y &&& 31)) :: r)
    | _ => none
  | .ineg => match st with
    | .int x :: r => some (nx, ls, .int (-x) :: r)
    | _ => none
  | .ladd => match st with
    | .long y :: .long x :: r => some (nx, ls, .long (x + y) :: r)
    | _ => none
  | .lmul => match st with
    | .long y :: .long x :: r => some (nx, ls, .long (x * y) :: r)
    | _ => none
  | .lcmp => match st with
    | .long y :: .long x :: r => some (nx, ls, .int (lg_cmp x y) :: r)
    | _ => none
  | .i2l => match st with
    | .int x :: r => some (nx, ls, .long x.toInt64 :: r)
    | _ => none
  | .dup => match st with
    | .int x :: r => some (nx, ls, .int x :: .int x :: r)
    | .ref x :: r => some (nx, ls, .ref x :: .ref x :: r)
    | _ => none
  | .goto _ => some (a, ls, st)
  | .getfield _ => match st with
    | .ref o :: r => match w[o]? with
      | some (.inr (ci, fs)) => bif Nat.beq ci a then (match fs[b]? with
        | some v => some (nx, ls, v :: r)
        | none => none) else none
      | _ => none
    | _ => none
  | .arraylength => match st with
    | .ref o :: r => match w[o]? with
      | some (.inl (_, m, _)) => some (nx, ls, .int (nI m) :: r)
      | _ => none
    | _ => none
  | _ => none
section VS
variable {X : Option (Nat × (Nat → Int32))} {k : Nat} {Q : Option Value → xW → Prop} {n : Nat × Nat} {pc nx a b : Nat} {ls : xL} {st : List Value} {w : xW} {ins : Instr}
theorem V.getf {o ci : Nat} {fs : List Value} {idx : Nat} {v : Value} (hd : xm_i k pc = some (.getfield idx, nx, ci, b)) (hw : w[o]? = some (.inr (ci, fs))) (hv : fs[b]? = some v) (kk : V X k Q n nx ls (v :: st) w) : V X k Q n pc ls (.ref o :: st) w := by
  intro p l e s m args below meth c D cI cZ A QQ ad0 n0 C hR ad H locs La hG hl
  obtain ⟨hdc, hnx, hex⟩ := C.2.2.2.2.2.2.2.2.2 pc _ hd
  dsimp only at hdc hnx hex
  subst hnx
  have kk := kk p l e s m args below meth c D cI cZ A QQ ad0 n0 C hR ad H locs La hG hl
  obtain ⟨hx, hb, hml, hown, hts, hK, hA, hN, hin, ok⟩ := C
  obtain ⟨hP, -⟩ := hG
  obtain ⟨hcl, hlt, hlink⟩ := x_fl_ok _ hex
  exact va_get (D := D) (ci := ci) (v := x_tr ad v) (fs := fs.map (x_tr ad)) (C := xc_n ci) (T := xc_T ci) (N := xc_N ci) hx hb hts (x_us ci (x_cl6 hcl)) hown hK hP o (x_rl_at hw) hcl b hlt (hts _ hlink) (fun _ h => h) (by rw [List.getElem?_map, hv]; rfl) hdc kk
theorem V.alen {o m : Nat} {z : Bool} {f : Nat → Int32} (hd : xm_i k pc = some (.arraylength, nx, a, b)) (hw : w[o]? = some (.inl (z, m, f))) (kk : V X k Q n nx ls (.int (nI m) :: st) w) : V X k Q n pc ls (.ref o :: st) w := by
  intro p l e s mm args below meth c D cI cZ A QQ ad0 n0 C hR ad H locs La hG hl
  obtain ⟨hdc, hnx, hex⟩ := C.2.2.2.2.2.2.2.2.2 pc _ hd
  dsimp only at hdc hnx hex
  subst hnx
  have kk := kk p l e s mm args below meth c D cI cZ A QQ ad0 n0 C hR ad H locs La hG hl
  obtain ⟨hx, hb, hml, hown, hts, hK, hA, hN, hin, ok⟩ := C
  obtain ⟨hP, -⟩ := hG
  cases z with
  | false => exact va_alen hx hb hK hP o 0 (x_rl_at hw) rfl rfl hdc kk
  | true => exact va_alen hx hb hK hP o 1 (x_rl_at hw) rfl rfl hdc kk
theorem V.iinc {i : Nat} {d : Int} {x : Int32} (hd : xm_i k pc = some (.iinc i d, nx, a, b)) (hv : x_lk i ls = some (.int x)) (kk : V X k Q n nx (x_st i (.int (x + x_ci d)) ls) st w) : V X k Q n pc ls st w := by
  intro p l e s m args below meth c D cI cZ A QQ ad0 n0 C hR ad H locs La hG hl
  obtain ⟨hdc, hnx, hex⟩ := C.2.2.2.2.2.2.2.2.2 pc _ hd
  dsimp only at hdc hnx hex
  subst hnx
  have hm : (i, Value.int x) ∈ ls.map (x_trp ad) := List.mem_map.mpr ⟨(i, .int x), x_lk_mem hv, rfl⟩
  obtain ⟨j, hj⟩ := List.getElem?_of_mem hm
  exact lv_iinc (k := j) (v := x + x_ci d) C.1 C.2.1 hdc hl hj (by rw [hex.2]) hex.1 rfl (fun La' h' => kk p l e s m args below meth c D cI cZ A QQ ad0 n0 C hR ad H locs La' hG (x_store1 (La := La) (v := .int (x + x_ci d)) rfl h'))
theorem V.ldc2 {idx : Nat} (hd : xm_i k pc = some (.ldc2_w idx, nx, a, b)) (kk : V X k Q n nx ls (.long (x_cL a) :: st) w) : V X k Q n pc ls st w :=
  V.keep hd kk (fun ad C hdc hex q => lv_ldc2 C.1 C.2.1 C.2.2.2.1 (C.2.2.2.2.1 _ (x_cl_ok _ hex)) hdc q)
/-- one simple instruction -/
theorem V.step (hd : xm_i k pc = some (ins, nx, a, b)) {S : Nat × xL × List Value} (hs : x_sp ins nx a b ls st w = some S) (kk : V X k Q n S.1 S.2.1 S.2.2 w) : V X k Q n pc ls st w := by
  unfold x_sp at hs
  split at hs
  · rw [x_cif_eq] at hs; cases hs; exact V.keep hd kk (fun ad C hdc hex q => lv_iconst C.1 C.2.1 hdc hex q)
  · rw [x_cif_eq] at hs; cases hs; exact V.keep hd kk (fun ad C hdc hex q => lv_bipush C.1 C.2.1 hdc hex q)
  · rw [x_cif_eq] at hs; cases hs; exact V.keep hd kk (fun ad C hdc hex q => lv_sipush C.1 C.2.1 hdc hex q)
  · cases hs; exact V.keep hd kk (fun ad C hdc hex q => lv_lconst C.1 C.2.1 hdc rfl q)
  · rw [x_cLf_eq] at hs; cases hs; exact V.ldc2 hd kk
  · split at hs
    · rename_i hl; cases hs; exact V.load hd hl (fun ad C hdc hv q => lv_iload_n C.1 C.2.1 hdc rfl hv q) kk
    · cases hs
  · split at hs
    · rename_i hl; cases hs; exact V.load hd hl (fun ad C hdc hv q => lv_iload C.1 C.2.1 hdc hv q) kk
    · cases hs
  · split at hs
    · rename_i hl; cases hs; exact V.load hd hl (fun ad C hdc hv q => lv_lload_n C.1 C.2.1 hdc rfl hv q) kk
    · cases hs
  · split at hs
    · rename_i hl; cases hs; exact V.load hd hl (fun ad C hdc hv q => lv_lload C.1 C.2.1 hdc hv q) kk
    · cases hs
  · split at hs
    · rename_i hl; cases hs; exact V.load hd hl (fun ad C hdc hv q => lv_aload_n C.1 C.2.1 hdc rfl hv q) kk
    · cases hs
  · split at hs
    · rename_i hl; cases hs; exact V.load hd hl (fun ad C hdc hv q => lv_aload C.1 C.2.1 hdc hv q) kk
    · cases hs
  · split at hs
    · rw [x_nf_eq] at hs; cases hs; exact V.store hd rfl (fun ad C hdc hex hl q => lv_istore_n C.1 C.2.1 hdc rfl hl hex rfl q) kk
    · cases hs
  · split at hs
    · rw [x_nf_eq] at hs; cases hs; exact V.store hd rfl (fun ad C hdc hex hl q => lv_istore C.1 C.2.1 hdc hl hex rfl q) kk
    · cases hs
  · split at hs
    · rw [x_nf_eq] at hs; cases hs; exact V.store2 hd rfl (fun ad C hdc hex hl q => lv_lstore_n C.1 C.2.1 hdc rfl hl hex rfl q) kk
    · cases hs
  · split at hs
    · rw [x_nf_eq] at hs; cases hs; exact V.store2 hd rfl (fun ad C hdc hex hl q => lv_lstore C.1 C.2.1 hdc hl hex rfl q) kk
    · cases hs
  · split at hs
    · rw [x_nf_eq] at hs; cases hs; exact V.store hd rfl (fun ad C hdc hex hl q => lv_astore_n C.1 C.2.1 hdc rfl hl hex rfl q) kk
    · cases hs
  · split at hs
    · rw [x_nf_eq] at hs; cases hs; exact V.store hd rfl (fun ad C hdc hex hl q => lv_astore C.1 C.2.1 hdc hl hex rfl q) kk
    · cases hs
  · split at hs
    · rename_i hl; rw [x_cif_eq, x_nf_eq] at hs; cases hs; exact V.iinc hd hl kk
    · cases hs
  · split at hs
    · cases hs; exact V.keep hd kk (fun ad C hdc hex q => lv_iadd C.1 C.2.1 hdc q)
    · cases hs
  · split at hs
    · cases hs; exact V.keep hd kk (fun ad C hdc hex q => lv_isub C.1 C.2.1 hdc q)
    · cases hs
  · split at hs
    · cases hs; exact V.keep hd kk (fun ad C hdc hex q => lv_imul C.1 C.2.1 hdc q)
    · cases hs
  · split at hs
    · cases hs; exact V.keep hd kk (fun ad C hdc hex q => lv_iand C.1 C.2.1 hdc q)
    · cases hs
  · split at hs
    · cases hs; exact V.keep hd kk (fun ad C hdc hex q => lv_ishl C.1 C.2.1 hdc q)
    · cases hs
  · split at hs
    · cases hs; exact V.keep hd kk (fun ad C hdc hex q => lv_ishr C.1 C.2.1 hdc q)
    · cases hs
  · split at hs
    · cases hs; exact V.keep hd kk (fun ad C hdc hex q => lv_ineg C.1 C.2.1 hdc q)
    · cases hs
  · split at hs
    · cases hs; exact V.keep hd kk (fun ad C hdc hex q => lv_ladd C.1 C.2.1 hdc q)
    · cases hs
  · split at hs
    · cases hs; exact V.keep hd kk (fun ad C hdc hex q => lv_lmul C.1 C.2.1 hdc q)
    · cases hs
  · split at hs
    · cases hs; exact V.keep hd kk (fun ad C hdc hex q => W.lcmp C.1 C.2.1 hdc q)
    · cases hs
  · split at hs
    · cases hs; exact V.keep hd kk (fun ad C hdc hex q => lv_i2l C.1 C.2.1 hdc rfl q)
    · cases hs
  · split at hs
    · cases hs; exact V.keep hd kk (fun ad C hdc hex q => lv_dup C.1 C.2.1 hdc rfl q)
    · cases hs; exact V.keep hd kk (fun ad C hdc hex q => lv_dup C.1 C.2.1 hdc rfl q)
    · cases hs
  · cases hs
    intro p l e s m args below meth c D cI cZ A QQ ad0 n0 C hR ad H locs La hG hl
    obtain ⟨hdc, hnx, hex⟩ := C.2.2.2.2.2.2.2.2.2 pc _ hd
    exact lv_goto C.1 C.2.1 hdc hex (kk p l e s m args below meth c D cI cZ A QQ ad0 n0 C hR ad H locs La hG hl)
  · split at hs
    · split at hs
      · rename_i hw
        rename_i ci fs
        cases hq : Nat.beq ci a with
        | false => rw [hq, cond_false] at hs; cases hs
        | true =>
          rw [hq, cond_true] at hs
          have := Nat.eq_of_beq_eq_true hq
          subst this
          split at hs
          · rename_i hv; cases hs; exact V.getf hd hw hv kk
          · cases hs
      · cases hs
    · cases hs
  · split at hs
    · split at hs
      · rename_i hw; cases hs; exact V.alen hd hw kk
      · cases hs
    · cases hs
  · cases hs
/-- as many simple instructions as there are -/
def x_run (k : Nat) : Nat → Nat → xL → List Value → xW → Nat × xL × List Value
  | 0, pc, ls, st, _ => (pc, ls, st)
  | f + 1, pc, ls, st, w => match xm_i k pc with
    | none => (pc, ls, st)
    | some (ins, nx, a, b) => match x_sp ins nx a b ls st w with
      | none => (pc, ls, st)
      | some (pc', ls', st') => x_run k f pc' ls' st' w
theorem V.run (f : Nat) : ∀ {pc : Nat} {ls : xL} {st : List Value} {pc' : Nat} {ls' : xL} {st' : List Value}, x_run k f pc ls st w = (pc', ls', st') → V X k Q n pc' ls' st' w → V X k Q n pc ls st w := by
  induction f with
  | zero => intro pc ls st pc' ls' st' h kk; cases h; exact kk
  | succ f ih =>
    intro pc ls st pc' ls' st' h kk
    unfold x_run at h
    split at h
    · cases h; exact kk
    · rename_i ins nx a b hq
      split at h
      · cases h; exact kk
      · rename_i pc1 ls1 st1 hS
        exact V.step hq hS (ih h kk)
end VS
