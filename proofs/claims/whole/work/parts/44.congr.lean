/-! two heaps that say the same of what matters -/
def agr (N : Nat) (G : Nat → Prop) (fd kd vl fd' kd' vl' : Nat → Int32) : Prop := (∀ x, G x → fd x = fd' x) ∧ (∀ w, w < N → kd w = kd' w) ∧ ∀ w, w < N → vl w = vl' w
theorem fm_congr {α β : Type} {f g : α → Option β} : ∀ {l : List α}, (∀ x ∈ l, f x = g x) → l.filterMap f = l.filterMap g
  | [], _ => rfl
  | x :: r, h => by rw [List.filterMap_cons, List.filterMap_cons, h x List.mem_cons_self, fm_congr (fun y hy => h y (List.mem_cons_of_mem _ hy))]
theorem tgs_congr {N : Nat} {G : Nat → Prop} {fd kd vl fd' kd' vl' : Nat → Int32} (hp : hpOK N fd kd vl G) (hN : N < 2 ^ 31) (h : agr N G fd kd vl fd' kd' vl') {x : Nat} (hx : G x) : tgs fd kd vl x = tgs fd' kd' vl' x := by
  obtain ⟨-, -, m, hm, hf, hmN, -⟩ := hp x hx
  unfold tgs
  rw [← h.1 x hx, hf, nI_clamp (by omega)]
  refine fm_congr (fun j hj => ?_)
  rw [List.mem_range] at hj
  rw [h.2.1 _ (by omega), h.2.2 _ (by omega)]
theorem insL_all {G : Nat → Prop} {L ys : List Nat} (hL : ∀ y ∈ L, G y) (hy : ∀ y ∈ ys, G y) : ∀ y ∈ insL L ys, G y := fun y h => (insL_mem.mp h).elim (hL y) (hy y)
theorem fol_congr {G : Nat → Prop} {T T' : Nat → List Nat} (hT : ∀ x, G x → T x = T' x) (hc : ∀ x y, G x → y ∈ T x → G y) : ∀ (n i : Nat) (L : List Nat), (∀ y ∈ L, G y) → fol T n i L = fol T' n i L ∧ ∀ y ∈ fol T n i L, G y
  | 0, _, L, hL => ⟨rfl, hL⟩
  | n + 1, i, L, hL => by
    unfold fol
    split
    · rename_i hlt
      have hx : G (L.getD i 0) := by
        rw [List.getD_eq_getElem?_getD, List.getElem?_eq_getElem hlt]
        exact hL _ (List.getElem_mem hlt)
      rw [← hT _ hx]
      exact fol_congr hT hc n (i + 1) _ (insL_all hL (fun y hy => hc _ y hx hy))
    · exact ⟨rfl, hL⟩
theorem rts_congr {rt rt' : Nat → Int32} (h : ∀ i, i < 16 → rt i = rt' i) : rts rt 0 16 = rts rt' 0 16 := by
  unfold rts
  refine fm_congr (fun j hj => ?_)
  have := (List.mem_range'_1.mp hj).2
  rw [h j (by omega)]
theorem inF_congr {fd fd' : Nat → Int32} {L : List Nat} (h : ∀ x ∈ L, fd x = fd' x) (w : Nat) : inF fd L w = inF fd' L w := by
  unfold inF
  rw [Bool.eq_iff_iff, List.any_eq_true, List.any_eq_true]
  constructor
  · rintro ⟨y, hy, q⟩; exact ⟨y, hy, by rw [← h y hy]; exact q⟩
  · rintro ⟨y, hy, q⟩; exact ⟨y, hy, by rw [h y hy]; exact q⟩
theorem agr_lo {N : Nat} {G : Nat → Prop} {fd kd vl fd' kd' vl' : Nat → Int32} (h : agr N G fd kd vl fd' kd' vl') {L : List Nat} (hL : ∀ x ∈ L, G x) : agr N G fd (loK fd kd vl L) (loV fd kd vl L) fd' (loK fd' kd' vl' L) (loV fd' kd' vl' L) := by
  have e1 : ∀ w, w < N → (inF fd L w && cutb kd vl L w) = (inF fd' L w && cutb kd' vl' L w) := by
    intro w hw
    rw [inF_congr (fun x hx => h.1 x (hL x hx)) w]
    unfold cutb
    rw [h.2.1 w hw, h.2.2 w hw]
  refine ⟨h.1, fun w hw => ?_, fun w hw => ?_⟩
  · unfold loK cfK; rw [e1 w hw, h.2.1 w hw]
  · unfold loV cfV; rw [e1 w hw, h.2.2 w hw]
theorem insN_congr {nm nm' : Nat → Int32} {x : Nat} (hx : nm x = nm' x) : ∀ {T : List Nat}, (∀ y ∈ T, nm y = nm' y) → insN nm x T = insN nm' x T
  | [], _ => rfl
  | y :: r, h => by
    unfold insN
    rw [hx, h y List.mem_cons_self, insN_congr hx (fun z hz => h z (List.mem_cons_of_mem _ hz))]
theorem sq_congr {N : Nat} {nm nm' wt wt' : Nat → Int32} {L : List Nat} (h1 : ∀ w, w < N → nm w = nm' w) (h2 : ∀ w, w < N → wt w = wt' w) : ∀ k, 2 * k ≤ N → sq nm wt L k = sq nm' wt' L k
  | 0, _ => rfl
  | k + 1, hk => by
    have ih := sq_congr (L := L) h1 h2 k (by omega)
    unfold sq
    rw [← ih, ← h2 _ (show 2 * k < N by omega), insN_congr (h1 _ (by omega)) (fun y hy => h1 y (by have := (sq_mem.mp hy).1; omega))]
theorem wtQ_congr {N : Nat} {wt wt' : Nat → Int32} {L : List Nat} (h2 : ∀ w, w < N → wt w = wt' w) (k : Nat) {w : Nat} (hw : w < N) : wtQ wt L k w = wtQ wt' L k w := by
  unfold wtQ
  rw [h2 w hw]
/-- marking says the same -/
theorem mrk_congr {B : Nat} (hB : B ≤ 16) {G : Nat → Prop} {nm fd wt kd vl rt nm' fd' wt' kd' vl' rt' : Nat → Int32} {Qs : List Nat} (hp : hpOK (32 * B) fd kd vl G) (h : agr (32 * B) G fd kd vl fd' kd' vl') (hr : rtOK rt G) (hrt : ∀ i, i < 16 → rt i = rt' i) (hq : ∀ y ∈ Qs, G y) (hnm : ∀ w, w < 32 * B → nm w = nm' w) (hwt : ∀ w, w < 32 * B → wt w = wt' w) (hw : wtOK (32 * B) nm wt G) :
    mL1 B fd kd vl rt Qs = mL1 B fd' kd' vl' rt' Qs ∧ mT B nm fd wt kd vl rt Qs = mT B nm' fd' wt' kd' vl' rt' Qs ∧ (∀ w, w < 32 * B → mW B fd wt kd vl rt Qs w = mW B fd' wt' kd' vl' rt' Qs w) ∧ mL3 B nm fd wt kd vl rt Qs = mL3 B nm' fd' wt' kd' vl' rt' Qs ∧ (∀ w, w < 32 * B → mK2 B nm fd wt kd vl rt Qs w = mK2 B nm' fd' wt' kd' vl' rt' Qs w) ∧ (∀ w, w < 32 * B → mV2 B nm fd wt kd vl rt Qs w = mV2 B nm' fd' wt' kd' vl' rt' Qs w) := by
  have hN : 32 * B < 2 ^ 31 := by omega
  have hh : heldL rt Qs = heldL rt' Qs := by unfold heldL; rw [rts_congr hrt]
  have hhG : ∀ y ∈ heldL rt Qs, G y := by
    refine insL_all (insL_all (fun y hy => by simp at hy) (fun y hy => ?_)) hq
    obtain ⟨i, hi, he⟩ := List.mem_filterMap.mp hy
    have := (List.mem_range'_1.mp hi).2
    rcases hr i (by omega) with h0 | ⟨x, hx, hg⟩
    · rw [if_pos h0] at he; cases he
    · rw [hx, if_neg (nI_m1 (by have := (hp x hg).1; omega)), nI_clamp (by have := (hp x hg).1; omega)] at he
      cases he; exact hg
  have f1 := fol_congr (fun x hx => tgs_congr hp hN h hx) (fun x y hx hy => tgs_G hp hN hx hy) (16 * B + 1) 0 (heldL rt Qs) hhG
  have e1 : mL1 B fd kd vl rt Qs = mL1 B fd' kd' vl' rt' Qs := by
    unfold mL1; rw [← hh]; exact f1.1
  have g1 : ∀ y ∈ mL1 B fd kd vl rt Qs, G y := f1.2
  have e2 : mT B nm fd wt kd vl rt Qs = mT B nm' fd' wt' kd' vl' rt' Qs := by
    unfold mT; rw [← e1]; exact sq_congr hnm hwt _ (by omega)
  have g2 : ∀ y ∈ mT B nm fd wt kd vl rt Qs, G y := by
    intro y hy
    have := sq_mem.mp hy
    exact hw.2.1 y (by omega) this.2.2.1
  have a1 : agr (32 * B) G fd (mK1 B fd kd vl rt Qs) (mV1 B fd kd vl rt Qs) fd' (mK1 B fd' kd' vl' rt' Qs) (mV1 B fd' kd' vl' rt' Qs) := by
    unfold mK1 mV1; rw [← e1]; exact agr_lo h g1
  have p1 : hpOK (32 * B) fd (mK1 B fd kd vl rt Qs) (mV1 B fd kd vl rt Qs) G := hpOK_lo hp _
  have f3 := fol_congr (fun x hx => tgs_congr p1 hN a1 hx) (fun x y hx hy => tgs_G p1 hN hx hy) (16 * B + 1 - (mL1 B fd kd vl rt Qs).length) (mL1 B fd kd vl rt Qs).length (insL (mL1 B fd kd vl rt Qs) (mT B nm fd wt kd vl rt Qs)) (insL_all g1 g2)
  have e3 : mL3 B nm fd wt kd vl rt Qs = mL3 B nm' fd' wt' kd' vl' rt' Qs := by
    unfold mL3; rw [← e1, ← e2]; exact f3.1
  have a2 := agr_lo a1 f3.2
  have e3' : fol (tgs fd (mK1 B fd kd vl rt Qs) (mV1 B fd kd vl rt Qs)) (16 * B + 1 - (mL1 B fd kd vl rt Qs).length) (mL1 B fd kd vl rt Qs).length (insL (mL1 B fd kd vl rt Qs) (mT B nm fd wt kd vl rt Qs)) = mL3 B nm fd wt kd vl rt Qs := rfl
  rw [e3'] at a2
  refine ⟨e1, e2, fun w hw' => ?_, e3, fun w hw' => ?_, fun w hw' => ?_⟩
  · unfold mW; rw [← e1]; exact wtQ_congr hwt _ hw'
  · unfold mK2; rw [← e3]; exact a2.2.1 w hw'
  · unfold mV2; rw [← e3]; exact a2.2.2 w hw'
