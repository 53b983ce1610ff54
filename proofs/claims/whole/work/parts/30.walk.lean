/-! WALKS, purely: a list of addresses, each once, in the order in which they were come to -/
def setA (a : Nat → Nat → Int32) (q : Nat) (f : Nat → Int32) : Nat → Nat → Int32 := fun i => bif Nat.beq i q then f else a i
def ins (L : List Nat) (x : Nat) : List Nat := if x ∈ L then L else L ++ [x]
def insL (L ys : List Nat) : List Nat := ys.foldl ins L
theorem ins_mem {L : List Nat} {x y : Nat} : y ∈ ins L x ↔ y ∈ L ∨ y = x := by
  unfold ins
  split
  · constructor
    · exact Or.inl
    · rintro (h | rfl) <;> assumption
  · simp
theorem ins_nodup {L : List Nat} {x : Nat} (h : L.Nodup) : (ins L x).Nodup := by
  unfold ins
  split
  · exact h
  · rename_i hx
    refine List.nodup_append.mpr ⟨h, by simp, ?_⟩
    intro a ha b hb
    simp at hb
    subst hb
    rintro rfl
    exact hx ha
theorem ins_pre (L : List Nat) (x : Nat) : ∃ M, ins L x = L ++ M := by
  unfold ins
  split
  · exact ⟨[], by simp⟩
  · exact ⟨[x], rfl⟩
theorem ins_get {L : List Nat} {x i y : Nat} (h : L[i]? = some y) : (ins L x)[i]? = some y := by
  obtain ⟨M, hM⟩ := ins_pre L x
  rw [hM, List.getElem?_append_left (List.getElem?_eq_some_iff.mp h).1]
  exact h
theorem insL_pre (ys : List Nat) : ∀ L : List Nat, ∃ M, insL L ys = L ++ M := by
  induction ys with
  | nil => intro L; exact ⟨[], by simp [insL]⟩
  | cons y ys ih =>
    intro L
    obtain ⟨M1, h1⟩ := ins_pre L y
    obtain ⟨M2, h2⟩ := ih (ins L y)
    refine ⟨M1 ++ M2, ?_⟩
    show insL (ins L y) ys = _
    rw [h2, h1, List.append_assoc]
theorem insL_mem {ys : List Nat} : ∀ {L : List Nat} {y : Nat}, y ∈ insL L ys ↔ y ∈ L ∨ y ∈ ys := by
  induction ys with
  | nil => intro L y; simp [insL]
  | cons z ys ih =>
    intro L y
    show y ∈ insL (ins L z) ys ↔ _
    rw [ih, ins_mem, List.mem_cons, or_assoc]
theorem insL_nodup {ys : List Nat} : ∀ {L : List Nat}, L.Nodup → (insL L ys).Nodup := by
  induction ys with
  | nil => intro L h; exact h
  | cons z ys ih => intro L h; exact ih (L := ins L z) (ins_nodup h)
theorem ins_id {L : List Nat} {x : Nat} (h : x ∈ L) : ins L x = L := by simp [ins, h]
theorem insL_id {ys : List Nat} : ∀ {L : List Nat}, (∀ y ∈ ys, y ∈ L) → insL L ys = L := by
  induction ys with
  | nil => intro L _; rfl
  | cons z ys ih =>
    intro L h
    show insL (ins L z) ys = L
    rw [ins_id (h z List.mem_cons_self)]
    exact ih (fun y hy => h y (List.mem_cons_of_mem _ hy))
/-- a list of different numbers below M has at most M of them -/
theorem nodup_len : ∀ (M : Nat) (L : List Nat), L.Nodup → (∀ x ∈ L, x < M) → L.length ≤ M
  | 0, [], _, _ => Nat.le_refl _
  | 0, x :: _, _, h => absurd (h x List.mem_cons_self) (Nat.not_lt_zero _)
  | M + 1, L, hn, h => by
    by_cases hM : M ∈ L
    · have h1 := nodup_len M (L.erase M) (hn.erase M) (fun x hx => by
        have h2 := (List.Nodup.mem_erase_iff hn).mp hx
        have h3 := h x h2.2
        omega)
      rw [List.length_erase_of_mem hM] at h1
      omega
    · have h1 := nodup_len M L hn (fun x hx => by
        have h3 := h x hx
        have : x ≠ M := fun e => hM (e ▸ hx)
        omega)
      omega
theorem even_len {M : Nat} {L : List Nat} (hn : L.Nodup) (h : ∀ x ∈ L, x < 2 * M ∧ x % 2 = 0) : L.length ≤ M := by
  have h1 := nodup_len M (L.map (fun x => x / 2)) (by
    rw [List.nodup_iff_pairwise_ne, List.pairwise_map]
    refine List.Pairwise.imp_of_mem ?_ (List.nodup_iff_pairwise_ne.mp hn)
    intro a b ha hb hab e
    have h2 := h a ha
    have h3 := h b hb
    omega) (fun x hx => by
      obtain ⟨y, hy, rfl⟩ := List.mem_map.mp hx
      have := h y hy
      omega)
  rwa [List.length_map] at h1
/-- what fields of an object refer to (not weakly), by their numbers -/
def tgs (fd kd vl : Nat → Int32) (x : Nat) : List Nat := (List.range (fd x).toNatClampNeg).filterMap (fun j => if kd (x + 1 + j) = 1 then some (vl (x + 1 + j)).toNatClampNeg else none)
/-- going through a list from its place i on, with what is come to put behind -/
def fol (T : Nat → List Nat) : Nat → Nat → List Nat → List Nat
  | 0, _, L => L
  | n + 1, i, L => if i < L.length then fol T n (i + 1) (insL L (T (L.getD i 0))) else L
/-- arrays that hold a walk -/
def Wk (N : Nat) (L : List Nat) (f g : Nat → Int32) (n : Int32) : Prop := n = nI L.length ∧ (∀ i x, L[i]? = some x → f i = nI x ∧ g x = nI i) ∧ (∀ x, x < N → x ∉ L → g x = -1) ∧ (∀ x ∈ L, x < N)
theorem upd_s {f : Nat → Int32} {k : Nat} {x : Int32} : upd f k x k = x := by simp [upd]
theorem upd_n {f : Nat → Int32} {k j : Nat} {x : Int32} (h : j ≠ k) : upd f k x j = f j := by simp [upd, h]
theorem Wk.add {N : Nat} {L : List Nat} {f g : Nat → Int32} {n : Int32} {x : Nat} (h : Wk N L f g n) (hx : x < N) (hn : x ∉ L) : Wk N (ins L x) (upd f L.length (nI x)) (upd g x (nI L.length)) (n + nI 1) := by
  obtain ⟨h1, h2, h3, h4⟩ := h
  have e : ins L x = L ++ [x] := by simp [ins, hn]
  rw [e]
  refine ⟨by rw [h1, nI_add]; simp, fun i y hy => ?_, fun y hy hm => ?_, fun y hy => ?_⟩
  · by_cases hi : i < L.length
    · rw [List.getElem?_append_left hi] at hy
      have hyx : y ≠ x := fun q => hn (q ▸ List.mem_of_getElem? hy)
      rw [upd_n (by omega), upd_n hyx]
      exact h2 i y hy
    · rw [List.getElem?_append_right (by omega)] at hy
      have hz := (List.getElem?_eq_some_iff.mp hy).1
      simp at hz
      have : i = L.length := by omega
      subst this
      simp at hy
      subst hy
      exact ⟨upd_s, upd_s⟩
  · simp at hm
    rw [upd_n hm.2]
    exact h3 y hy hm.1
  · rcases List.mem_append.mp hy with h | h
    · exact h4 y h
    · simp at h
      rw [h]; exact hx
theorem Wk.not {N : Nat} {L : List Nat} {f g : Nat → Int32} {n : Int32} {x : Nat} (h : Wk N L f g n) (hl : L.length < 2 ^ 31) (hm : x ∈ L) : ¬ g x = -1 := by
  obtain ⟨i, hi⟩ := List.getElem?_of_mem hm
  rw [(h.2.1 i x hi).2]
  exact nI_m1 (Nat.lt_trans (List.getElem?_eq_some_iff.mp hi).1 hl)
theorem Wk.iff {N : Nat} {L : List Nat} {f g : Nat → Int32} {n : Int32} {x : Nat} (h : Wk N L f g n) (hl : L.length < 2 ^ 31) (hx : x < N) : g x = -1 ↔ x ∉ L :=
  ⟨fun e m => h.not hl m e, fun m => h.2.2.1 x hx m⟩
theorem Wk.nil {N : Nat} {f g : Nat → Int32} (h : ∀ x, x < N → g x = -1) : Wk N [] f g (nI 0) :=
  ⟨rfl, fun i x h => by simp at h, fun x hx _ => h x hx, fun x h => by simp at h⟩
/-- the objects that matter: each lies in the heap, at an even address; its fields lie there too; what they refer to matters as well -/
def hpOK (N : Nat) (fd kd vl : Nat → Int32) (G : Nat → Prop) : Prop := ∀ x, G x → x < N ∧ x % 2 = 0 ∧ ∃ m, m ≤ 15 ∧ fd x = nI m ∧ x + 1 + m ≤ N ∧ ∀ j, j < m → (kd (x + 1 + j) = 0 ∨ ((kd (x + 1 + j) = 1 ∨ kd (x + 1 + j) = 2) ∧ ∃ y, vl (x + 1 + j) = nI y ∧ G y))
theorem tgs_G {N : Nat} {fd kd vl : Nat → Int32} {G : Nat → Prop} (h : hpOK N fd kd vl G) (hN : N < 2 ^ 31) {x y : Nat} (hx : G x) (hy : y ∈ tgs fd kd vl x) : G y := by
  obtain ⟨-, -, m, hm, hf, -, hj⟩ := h x hx
  unfold tgs at hy
  rw [hf, nI_clamp (by omega)] at hy
  obtain ⟨j, hjm, he⟩ := List.mem_filterMap.mp hy
  rw [List.mem_range] at hjm
  split at he
  · rename_i h1
    rcases hj j hjm with h0 | ⟨-, z, hz, hg⟩
    · rw [h0] at h1; exact absurd h1 (by decide)
    · rw [hz, nI_clamp (by have := (h z hg).1; omega)] at he
      cases he
      exact hg
  · cases he
