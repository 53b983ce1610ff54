/-! the class's blocks hold K -/
def repK (B : Nat) (a : Nat → Nat → Int32) (v : Nat → Int32) (K : KS) : Prop := (∀ w, w < 32 * B → a 0 w = K.1 w) ∧ (∀ w, w < 32 * B → a 2 w = K.2.1 w) ∧ (∀ b, b < B → a 10 b = K.2.2.1 b) ∧ (∀ b, b < B → a 11 b = K.2.2.2.1 b) ∧ v 7 = K.2.2.2.2
/-- nothing but names, fields, watched, classes, unswept has changed; what is left has its fields -/
def frK (B : Nat) (a a' : Nat → Nat → Int32) (v v' : Nat → Int32) : Prop := (∀ i, i ≠ 0 → i ≠ 1 → i ≠ 2 → i ≠ 10 → i ≠ 11 → a' i = a i) ∧ (∀ i, i ≠ 7 → v' i = v i) ∧ ∀ w, w < 32 * B → a' 0 w ≠ -1 → a' 1 w = a 1 w ∧ a' 0 w = a 0 w
theorem frK.rf (B : Nat) (a : Nat → Nat → Int32) (v : Nat → Int32) : frK B a a v v := ⟨fun _ _ _ _ _ _ => rfl, fun _ _ => rfl, fun _ _ _ => ⟨rfl, rfl⟩⟩
theorem frK.tr {B : Nat} {a a' a'' : Nat → Nat → Int32} {v v' v'' : Nat → Int32} (h1 : frK B a a' v v') (h2 : frK B a' a'' v' v'') : frK B a a'' v v'' :=
  ⟨fun i p1 p2 p3 p4 p5 => (h2.1 i p1 p2 p3 p4 p5).trans (h1.1 i p1 p2 p3 p4 p5), fun i p => (h2.2.1 i p).trans (h1.2.1 i p), fun w hw hn => by
    obtain ⟨e1, e2⟩ := h2.2.2 w hw hn
    obtain ⟨e3, e4⟩ := h1.2.2 w hw (by rw [← e2]; exact hn)
    exact ⟨e1.trans e3, e2.trans e4⟩⟩
/-- which words are marked, by the ranks -/
def mkB (g : Nat → Int32) : Nat → Bool := fun w => !decide (g w = -1)
section CB
variable {B : Nat} {a : Nat → Nat → Int32} {v : Nat → Int32} {r : xW}
theorem c_classOfE (hB : B ≤ 16) {b : Nat} (hb : b < B) {y : Int32} (hy : a 10 b = y) : Tot none kX0_classOf [.ref 15, .int (nI b)] (wC B a v r) (rI y (wC B a v r)) := hy ▸ c_classOf hB hb
theorem c_isUnsweptE (hB : B ≤ 16) {b : Nat} (hb : b < B) {y : Int32} (hy : a 11 b = y) (h01 : y = 0 ∨ y = 1) : Tot none kX0_isUnswept [.ref 15, .int (nI b)] (wC B a v r) (rI y (wC B a v r)) := by
  subst hy
  exact c_isUnswept hB hb h01
theorem c_clean (hB : B ≤ 16) {K : KS} (hK : bkOK B (mkB (a 6)) K) (hr : repK B a v K) {b : Nat} (hb : b < B) (hu : K.2.2.2.1 b = 1) :
    Tot none kX0_clean [.ref 15, .int (nI b)] (wC B a v r) (fun o w' => o = none ∧ ∃ a' v', w' = wC B a' v' r ∧ frK B a a' v v' ∧ repK B a' v' (sw1 (mkB (a 6)) K b)) := by
  obtain ⟨r1, r2, r3, r4, r5⟩ := hr
  obtain ⟨k1, k2, k3, k4, k5⟩ := hK
  obtain ⟨c, hc, hcl⟩ : ∃ c, c < 4 ∧ K.2.2.1 b = nI c := by
    rcases k1 b hb with h | h
    · rcases k2 b hb with q | q
      · rw [hu] at q; exact absurd q (by decide)
      · exact absurd h q.2
    · exact h
  have h10 : a 10 b = nI c := (r3 b hb).trans hcl
  have h11 : a 11 b = 1 := (r4 b hb).trans hu
  -- what the cells that were looked at have become
  have fin : ∀ (aa : Nat → Nat → Int32) (n : Nat), n = cn (fun i => mkB (a 6) (b * 32 + i * cwd c)) (cpb c) → (∀ i, i ≠ 0 → i ≠ 1 → i ≠ 2 → aa i = a i) →
      (∀ w, w < 32 * B → (((∃ i, i < cpb c ∧ w = b * 32 + i * cwd c) ∧ mkB (a 6) w = false) → aa 0 w = -1 ∧ aa 2 w = 0) ∧ (¬ ((∃ i, i < cpb c ∧ w = b * 32 + i * cwd c) ∧ mkB (a 6) w = false) → aa 0 w = a 0 w ∧ aa 1 w = a 1 w ∧ aa 2 w = a 2 w)) →
      V none 16 (fun o w' => o = none ∧ ∃ a' v', w' = wC B a' v' r ∧ frK B a a' v v' ∧ repK B a' v' (sw1 (mkB (a 6)) K b)) (0, 0) 68 [(0, .ref 15), (1, .int (nI b)), (2, .int (nI n))] [] (wC B aa v r) := by
    intro aa n hn hfr hw
    have hin : ∀ w, w < 32 * B → w / 32 = b → mkB (a 6) w = false → aa 0 w = -1 ∧ aa 2 w = 0 := by
      intro w hwB hwb hm
      by_cases q : ∃ i, i < cpb c ∧ w = b * 32 + i * cwd c
      · exact (hw w hwB).1 ⟨q, hm⟩
      · have hnm : K.1 w = -1 := by
          by_cases q2 : K.1 w = -1
          · exact q2
          · obtain ⟨c', hc', e1, e2⟩ := k3 w hwB q2
            rw [hwb, hcl] at e1
            have : c' = c := nI_inj (by omega) (by omega) e1.symm
            subst this
            obtain ⟨i, hi, hwi⟩ := cell_of hc' e2
            rw [hwb] at hwi
            exact absurd ⟨i, hi, hwi⟩ q
        obtain ⟨e1, -, e2⟩ := (hw w hwB).2 (fun h => q h.1)
        rw [e1, e2, r1 w hwB, r2 w hwB, hnm]
        refine ⟨rfl, ?_⟩
        rcases k4 w hwB with h | h
        · exact h
        · exact absurd hnm h.2
    have hout : ∀ w, w < 32 * B → (w / 32 ≠ b ∨ mkB (a 6) w = true) → aa 0 w = a 0 w ∧ aa 1 w = a 1 w ∧ aa 2 w = a 2 w := by
      intro w hwB h
      refine (hw w hwB).2 ?_
      rintro ⟨⟨i, hi, rfl⟩, hm⟩
      have := cw_in hc hi
      have := cwd_pos c
      rcases h with h | h
      · omega
      · rw [hm] at h; cases h
    have io : ∀ w, (w / 32 = b ∧ mkB (a 6) w = false) ∨ (w / 32 ≠ b ∨ mkB (a 6) w = true) := by
      intro w
      by_cases q : w / 32 = b
      · cases hm : mkB (a 6) w
        · exact Or.inl ⟨q, rfl⟩
        · exact Or.inr (Or.inr rfl)
      · exact Or.inr (Or.inl q)
    have hN : ∀ w, w < 32 * B → aa 0 w = swN (mkB (a 6)) K.1 b w := by
      intro w hwB
      rcases io w with ⟨q, hm⟩ | q
      · rw [swN_in q hm]; exact (hin w hwB q hm).1
      · rw [swN_out q, (hout w hwB q).1]; exact r1 w hwB
    have hWt : ∀ w, w < 32 * B → aa 2 w = swW (mkB (a 6)) K.2.1 b w := by
      intro w hwB
      rcases io w with ⟨q, hm⟩ | q
      · rw [swW_in q hm]; exact (hin w hwB q hm).2
      · rw [swW_out q, (hout w hwB q).2.2]; exact r2 w hwB
    have hF : ∀ w, w < 32 * B → aa 0 w ≠ -1 → aa 1 w = a 1 w ∧ aa 0 w = a 0 w := by
      intro w hwB hne
      rcases io w with ⟨q, hm⟩ | q
      · exact absurd (hin w hwB q hm).1 hne
      · exact ⟨(hout w hwB q).2.1, (hout w hwB q).1⟩
    have hkept : n = 0 ↔ blkE (swN (mkB (a 6)) K.1 b) b = true := by
      rw [blkE_iff, hn, cn_zero]
      constructor
      · intro h w hwb
        rcases io w with ⟨q, hm⟩ | q
        · exact swN_in q hm
        · have hm : mkB (a 6) w = true := q.resolve_left (fun z => z hwb)
          have hwB : w < 32 * B := by omega
          obtain ⟨c', hc', e1, e2⟩ := k3 w hwB (k5 w hwB hm)
          rw [hwb, hcl] at e1
          have : c' = c := nI_inj (by omega) (by omega) e1.symm
          subst this
          obtain ⟨i, hi, hwi⟩ := cell_of hc' e2
          rw [hwb] at hwi
          have h1 := h i hi
          rw [← hwi, hm] at h1
          cases h1
      · intro h i hi
        cases hm : mkB (a 6) (b * 32 + i * cwd c) with
        | false => rfl
        | true =>
          exfalso
          have := cw_in hc hi
          have := cwd_pos c
          have h1 := h (b * 32 + i * cwd c) (by omega)
          rw [swN_out (Or.inr hm)] at h1
          exact k5 _ (by omega) hm h1
    have h10' : aa 10 = a 10 := hfr 10 (by omega) (by omega) (by omega)
    have h11' : aa 11 = a 11 := hfr 11 (by omega) (by omega) (by omega)
    refine V.run 20 rfl ?_
    refine V.zast (w' := wC B (uA aa 11 b (nI 0)) v r) rfl rfl rfl hb (by omega) (Or.inl rfl) rfl ?_
    refine V.run 20 rfl ?_
    refine V.puti (w' := wC B (uA aa 11 b (nI 0)) (uV v 7 (v 7 + nI 1)) r) rfl rfl rfl ?_
    refine V.run 20 rfl ?_
    have hus : ∀ b', b' < B → upd (aa 11) b (nI 0) b' = upd K.2.2.2.1 b 0 b' := by
      intro b' hb'
      by_cases q : b' = b
      · subst q; rw [upd_s, upd_s]; rfl
      · rw [upd_n q, upd_n q, h11']; exact r4 b' hb'
    have hv : ∀ i, i ≠ 7 → uV v 7 (v 7 + nI 1) i = v i := by
      intro i hi
      have : Nat.beq i 7 = false := by rw [Bool.eq_false_iff]; exact fun q => hi (Nat.eq_of_beq_eq_true q)
      simp [uV, this]
    have huA : ∀ (A : Nat → Nat → Int32) (q j : Nat) (x : Int32) (i : Nat), i ≠ q → uA A q j x i = A i := by
      intro A q j x i hi
      have : Nat.beq i q = false := by rw [Bool.eq_false_iff]; exact fun z => hi (Nat.eq_of_beq_eq_true z)
      simp [uA, this]
    by_cases hz : n = 0
    · subst hz
      refine V.brF rfl rfl (fun h => h i0_eq0) ?_
      refine V.run 20 rfl ?_
      refine V.iast (w' := wC B (uA (uA aa 11 b (nI 0)) 10 b (-1)) (uV v 7 (v 7 + nI 1)) r) rfl rfl rfl hb (by omega) rfl ?_
      refine V.rv rfl ⟨rfl, _, _, rfl, ⟨fun i p1 p2 p3 p4 p5 => ?_, hv, hF⟩, hN, hWt, fun b' hb' => ?_, hus, ?_⟩
      · rw [huA _ _ _ _ _ p4, huA _ _ _ _ _ p5]; exact hfr i p1 p2 p3
      · show upd (aa 10) b (-1) b' = (if blkE (swN (mkB (a 6)) K.1 b) b = true then upd K.2.2.1 b (-1) else K.2.2.1) b'
        rw [if_pos (hkept.mp rfl)]
        by_cases q : b' = b
        · subst q; rw [upd_s, upd_s]
        · rw [upd_n q, upd_n q, h10']; exact r3 b' hb'
      · show v 7 + nI 1 = K.2.2.2.2 + nI 1
        rw [r5]
    · have hle : n ≤ 16 := by rw [hn]; exact Nat.le_trans (cn_le _ _) (cpb_le c hc)
      refine V.brT rfl rfl (nI_ne0 (by omega) (by omega)) ?_
      refine V.rv rfl ⟨rfl, _, _, rfl, ⟨fun i p1 p2 p3 p4 p5 => ?_, hv, hF⟩, hN, hWt, fun b' hb' => ?_, hus, ?_⟩
      · rw [huA _ _ _ _ _ p5]; exact hfr i p1 p2 p3
      · show aa 10 b' = (if blkE (swN (mkB (a 6)) K.1 b) b = true then upd K.2.2.1 b (-1) else K.2.2.1) b'
        rw [if_neg (fun q => hz (hkept.mpr q)), h10']; exact r3 b' hb'
      · show v 7 + nI 1 = K.2.2.2.2 + nI 1
        rw [r5]
  have loop : ∀ (m i : Nat) (aa : Nat → Nat → Int32), i + m = cpb c → (∀ i, i ≠ 0 → i ≠ 1 → i ≠ 2 → aa i = a i) →
      (∀ w, w < 32 * B → (((∃ j, j < i ∧ w = b * 32 + j * cwd c) ∧ mkB (a 6) w = false) → aa 0 w = -1 ∧ aa 2 w = 0) ∧ (¬ ((∃ j, j < i ∧ w = b * 32 + j * cwd c) ∧ mkB (a 6) w = false) → aa 0 w = a 0 w ∧ aa 1 w = a 1 w ∧ aa 2 w = a 2 w)) →
      V none 16 (fun o w' => o = none ∧ ∃ a' v', w' = wC B a' v' r ∧ frK B a a' v v' ∧ repK B a' v' (sw1 (mkB (a 6)) K b)) (0, 0) 23 [(0, .ref 15), (1, .int (nI b)), (2, .int (nI (cn (fun i => mkB (a 6) (b * 32 + i * cwd c)) i))), (3, .int (nI (cpb c))), (4, .int (nI i))] [.int (nI (cpb c)), .int (nI i)] (wC B aa v r) := by
    have hcp := cpb_le c hc
    intro m
    induction m with
    | zero =>
      intro i aa hi hfr hw
      have e : i = cpb c := by omega
      subst e
      refine V.brT rfl rfl (nI_le (Nat.le_refl _) (by omega)) ?_
      exact V.lt 3 rfl (fin aa _ rfl hfr hw)
    | succ m ih =>
      intro i aa hi hfr hw
      have hic : i < cpb c := by omega
      have hcw := cw_in hc hic
      have hcp2 := cwd_pos c
      have hxB : b * 32 + i * cwd c < 32 * B := by omega
      have h10' : aa 10 = a 10 := hfr 10 (by omega) (by omega) (by omega)
      have h6' : aa 6 = a 6 := hfr 6 (by omega) (by omega) (by omega)
      refine V.brF rfl rfl (nI_ge hic (by omega)) ?_
      refine V.run 20 rfl ?_
      refine V.cv rfl (c_cellOf hB hb hc (by rw [h10']; exact h10)) rfl rfl ?_
      rintro _ _ ⟨rfl, rfl⟩
      refine V.run 20 rfl ?_
      by_cases hm : a 6 (b * 32 + i * cwd c) = -1
      · have hmk : mkB (a 6) (b * 32 + i * cwd c) = false := by simp [mkB, hm]
        refine V.cv rfl (c_whas0 false hB hxB (by rw [show aa (oR false) = a 6 from h6']; exact hm)) rfl rfl ?_
        rintro _ _ ⟨rfl, rfl⟩
        refine V.brT rfl rfl i0_eq0 ?_
        refine V.run 20 rfl ?_
        refine V.cv rfl (c_remove hB hxB) rfl rfl ?_
        rintro _ _ ⟨rfl, rfl⟩
        refine V.run 20 rfl ?_
        rw [nI_add]
        refine V.lt 5 rfl ?_
        have ec : cn (fun i => mkB (a 6) (b * 32 + i * cwd c)) (i + 1) = cn (fun i => mkB (a 6) (b * 32 + i * cwd c)) i := by rw [cn, hmk]; rfl
        have ih := ih (i + 1) (uA (uA (uA aa 0 (b * 32 + i * cwd c) (-1)) 1 (b * 32 + i * cwd c) (nI 0)) 2 (b * 32 + i * cwd c) (nI 0)) (by omega) (fun j p1 p2 p3 => ?_) (fun w hwB => ⟨fun h => ?_, fun h => ?_⟩)
        · rw [ec] at ih; exact ih
        · have b0 : Nat.beq j 0 = false := by rw [Bool.eq_false_iff]; exact fun z => p1 (Nat.eq_of_beq_eq_true z)
          have b1 : Nat.beq j 1 = false := by rw [Bool.eq_false_iff]; exact fun z => p2 (Nat.eq_of_beq_eq_true z)
          have b2 : Nat.beq j 2 = false := by rw [Bool.eq_false_iff]; exact fun z => p3 (Nat.eq_of_beq_eq_true z)
          simp only [uA, b0, b1, b2, cond_false]
          exact hfr j p1 p2 p3
        · show upd (aa 0) (b * 32 + i * cwd c) (-1) w = -1 ∧ upd (aa 2) (b * 32 + i * cwd c) (nI 0) w = 0
          by_cases q : w = b * 32 + i * cwd c
          · subst q; rw [upd_s, upd_s]; exact ⟨rfl, rfl⟩
          · rw [upd_n q, upd_n q]
            obtain ⟨⟨j, hj, hwj⟩, hm2⟩ := h
            refine (hw w hwB).1 ⟨⟨j, ?_, hwj⟩, hm2⟩
            have : j ≠ i := fun z => q (z ▸ hwj)
            omega
        · show upd (aa 0) (b * 32 + i * cwd c) (-1) w = a 0 w ∧ upd (aa 1) (b * 32 + i * cwd c) (nI 0) w = a 1 w ∧ upd (aa 2) (b * 32 + i * cwd c) (nI 0) w = a 2 w
          by_cases q : w = b * 32 + i * cwd c
          · exact absurd ⟨⟨i, by omega, q⟩, by rw [q]; exact hmk⟩ h
          · rw [upd_n q, upd_n q, upd_n q]
            refine (hw w hwB).2 ?_
            rintro ⟨⟨j, hj, hwj⟩, hm2⟩
            exact h ⟨⟨j, by omega, hwj⟩, hm2⟩
      · have hmk : mkB (a 6) (b * 32 + i * cwd c) = true := by simp [mkB, hm]
        refine V.cv rfl (c_whas1 false hB hxB (by rw [show aa (oR false) = a 6 from h6']; exact hm)) rfl rfl ?_
        rintro _ _ ⟨rfl, rfl⟩
        refine V.brF rfl rfl i1_ne0 ?_
        refine V.run 20 rfl ?_
        rw [nI_add, nI_add]
        refine V.lt 5 rfl ?_
        have ec : cn (fun i => mkB (a 6) (b * 32 + i * cwd c)) (i + 1) = cn (fun i => mkB (a 6) (b * 32 + i * cwd c)) i + 1 := by rw [cn, hmk]; rfl
        have ih := ih (i + 1) aa (by omega) hfr (fun w hwB => ⟨fun h => ?_, fun h => ?_⟩)
        · rw [ec] at ih; exact ih
        · obtain ⟨⟨j, hj, hwj⟩, hm2⟩ := h
          refine (hw w hwB).1 ⟨⟨j, ?_, hwj⟩, hm2⟩
          have : j ≠ i := fun z => by rw [hwj, z, hmk] at hm2; cases hm2
          omega
        · refine (hw w hwB).2 ?_
          rintro ⟨⟨j, hj, hwj⟩, hm2⟩
          exact h ⟨⟨j, by omega, hwj⟩, hm2⟩
  refine eX0_clean ?_
  refine V.run 20 rfl ?_
  refine V.cv rfl (c_isUnsweptE hB hb h11 (Or.inr rfl)) rfl rfl ?_
  rintro _ _ ⟨rfl, rfl⟩
  refine V.brT rfl rfl (by decide) ?_
  refine V.run 20 rfl ?_
  refine V.cv rfl (c_cellsIn hB hb hc h10) rfl rfl ?_
  rintro _ _ ⟨rfl, rfl⟩
  refine V.run 20 rfl ?_
  exact loop (cpb c) 0 a (by omega) (fun _ _ _ _ => rfl) (fun w _ => ⟨fun h => by obtain ⟨⟨j, hj, -⟩, -⟩ := h; omega, fun _ => ⟨rfl, rfl, rfl⟩⟩)
end CB
