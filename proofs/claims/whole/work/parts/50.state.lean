/-! THE STATE, as the document has it: blocks; fields' numbers, kinds, values; roots; the queue; made; markings; marked -/
abbrev AS : Type := KS × (Nat → Int32) × (Nat → Int32) × (Nat → Int32) × (Nat → Int32) × List Nat × Int32 × Int32 × (Nat → Bool)
abbrev sK (s : AS) : KS := s.1
abbrev sF (s : AS) : Nat → Int32 := s.2.1
abbrev sD (s : AS) : Nat → Int32 := s.2.2.1
abbrev sV (s : AS) : Nat → Int32 := s.2.2.2.1
abbrev sR (s : AS) : Nat → Int32 := s.2.2.2.2.1
abbrev sQ (s : AS) : List Nat := s.2.2.2.2.2.1
abbrev sM (s : AS) : Int32 := s.2.2.2.2.2.2.1
abbrev sN (s : AS) : Int32 := s.2.2.2.2.2.2.2.1
abbrev sB (s : AS) : Nat → Bool := s.2.2.2.2.2.2.2.2
/-- an object that is there, and no sweeping takes it away -/
def safe (B : Nat) (s : AS) (x : Nat) : Prop := x < 32 * B ∧ (sK s).1 x ≠ -1 ∧ (sB s x = true ∨ (sK s).2.2.2.1 (x / 32) = 0)
/-- the class of an object of m fields -/
def clsF (m : Nat) : Nat := if m < 2 then 0 else if m < 4 then 1 else if m < 8 then 2 else 3
theorem clsF_lt (m : Nat) : clsF m < 4 := by unfold clsF; split <;> (try split) <;> (try split) <;> omega
theorem clsF_fit : ∀ m, m ≤ 15 → m + 1 ≤ cwd (clsF m) := by decide
def Inv (B n : Nat) (s : AS) : Prop :=
  bkOK B (sB s) (sK s) ∧ hpOK (32 * B) (sF s) (sD s) (sV s) (safe B s) ∧ rtOK (sR s) (safe B s) ∧ Wg B (safe B s) (sQ s) ∧ wtOK (32 * B) (sK s).1 (sK s).2.1 (safe B s) ∧
  (∃ M, M ≤ n ∧ sM s = nI M ∧ ∀ x, x < 32 * B → (sK s).1 x ≠ -1 → ∃ m, m < M ∧ (sK s).1 x = nI m) ∧
  (∀ x y, x < 32 * B → y < 32 * B → (sK s).1 x ≠ -1 → (sK s).1 x = (sK s).1 y → x = y) ∧
  (∀ x, x < 32 * B → (sK s).1 x ≠ -1 → ∃ m, m ≤ 15 ∧ sF s x = nI m ∧ (sK s).2.2.1 (x / 32) = nI (clsF m))
def ixN (n : Nat) (x : Int32) : Option Nat := if x < 0 ∨ nI n ≤ x then none else some x.toNatClampNeg
theorem ixN_or {n : Nat} (hn : n < 2 ^ 31) (x : Int32) : ((x < 0 ∨ nI n ≤ x) ∧ ixN n x = none) ∨ ∃ j, j < n ∧ x = nI j ∧ ixN n x = some j := by
  rcases pk_ix x hn with h | h | ⟨j, hj, rfl⟩
  · exact Or.inl ⟨Or.inl h, if_pos (Or.inl h)⟩
  · exact Or.inl ⟨Or.inr h, if_pos (Or.inr h)⟩
  · refine Or.inr ⟨j, hj, rfl, ?_⟩
    unfold ixN
    rw [if_neg, nI_clamp (by omega)]
    rintro (h | h)
    · exact nI_pos (by omega) h
    · exact nI_ge hj hn h
/-- a field of a root's object, or why there is none -/
def flt (s : AS) (root field : Int32) : Int32 ⊕ (Nat × Nat) := match ixN 15 field, ixN 16 root with
  | some j, some i => if sR s i = -1 then .inl (-3) else if sF s (sR s i).toNatClampNeg ≤ nI j then .inl (-2) else .inr ((sR s i).toNatClampNeg, j)
  | _, _ => .inl (-2)
def fcode (q : Int32 ⊕ (Nat × Nat)) : Int32 := match q with
  | .inl e => e
  | .inr _ => nI 0
def upKV (s : AS) (w : Nat) (k z : Int32) : AS := (sK s, sF s, upd (sD s) w k, upd (sV s) w z, sR s, sQ s, sM s, sN s, sB s)
def upR (s : AS) (i : Nat) (z : Int32) : AS := (sK s, sF s, sD s, sV s, upd (sR s) i z, sQ s, sM s, sN s, sB s)
def nmO (s : AS) (z : Int32) : Int32 := if z = -1 then -1 else (sK s).1 z.toNatClampNeg
def opSet (s : AS) (root field z : Int32) : Int32 × AS := match flt s root field with
  | .inl e => (e, s)
  | .inr q => (nI 0, upKV s (q.1 + 1 + q.2) (nI 0) z)
def opLink (s : AS) (root field to wk : Int32) : Int32 × AS := match ixN 16 to with
  | none => (-2, s)
  | some t => match flt s root field with
    | .inl e => (e, s)
    | .inr q => if sR s t = -1 then (-3, s) else (nI 0, upKV s (q.1 + 1 + q.2) (if wk = 0 then nI 1 else nI 2) (sR s t))
def opRefers (s : AS) (root field : Int32) : Int32 := match flt s root field with
  | .inl e => e
  | .inr q => sD s (q.1 + 1 + q.2)
def opNumber (s : AS) (root field : Int32) : Int32 := match flt s root field with
  | .inl _ => nI 0
  | .inr q => if sD s (q.1 + 1 + q.2) = 0 then sV s (q.1 + 1 + q.2) else nI 0
def opLoad (s : AS) (root frm field : Int32) : Int32 × AS := match ixN 16 root with
  | none => (-2, s)
  | some i => match flt s frm field with
    | .inl e => (e, s)
    | .inr q => if sD s (q.1 + 1 + q.2) = 0 then (-3, s) else (nmO s (sV s (q.1 + 1 + q.2)), upR s i (sV s (q.1 + 1 + q.2)))
def opCopy (s : AS) (root frm : Int32) : Int32 × AS := match ixN 16 root, ixN 16 frm with
  | some i, some j => (nmO s (sR s j), upR s i (sR s j))
  | _, _ => (-2, s)
def opDrop (s : AS) (root : Int32) : Int32 × AS := match ixN 16 root with
  | none => (-2, s)
  | some i => (if sR s i = -1 then nI 0 else nI 1, upR s i (-1))
def opWatch (s : AS) (root on : Int32) : Int32 × AS := match ixN 16 root with
  | none => (-2, s)
  | some i => if sR s i = -1 then (-3, s) else ((sK s).2.1 (sR s i).toNatClampNeg, (((sK s).1, upd (sK s).2.1 (sR s i).toNatClampNeg on, (sK s).2.2), s.2))
def opNext (s : AS) (root : Int32) : Int32 × AS := match ixN 16 root with
  | none => (-2, s)
  | some i => match sQ s with
    | [] => (-1, s)
    | x :: q => ((sK s).1 x, (sK s, sF s, sD s, sV s, upd (sR s) i (nI x), q, sM s, sN s, sB s))
def mrk (B : Nat) (s : AS) : AS := (((sK s).1, mW B (sF s) (sK s).2.1 (sD s) (sV s) (sR s) (sQ s), (sK s).2.2.1, (fun b => if (sK s).2.2.1 b = -1 then 0 else 1), (sK s).2.2.2.2), sF s, mK2 B (sK s).1 (sF s) (sK s).2.1 (sD s) (sV s) (sR s) (sQ s), mV2 B (sK s).1 (sF s) (sK s).2.1 (sD s) (sV s) (sR s) (sQ s), sR s, sQ s ++ mT B (sK s).1 (sF s) (sK s).2.1 (sD s) (sV s) (sR s) (sQ s), sM s, sN s + nI 1, (fun w => decide (w ∈ mL3 B (sK s).1 (sF s) (sK s).2.1 (sD s) (sV s) (sR s) (sQ s))))
def opMark (B : Nat) (s : AS) : Int32 × AS := (nI (mL3 B (sK s).1 (sF s) (sK s).2.1 (sD s) (sV s) (sR s) (sQ s)).length, mrk B s)
def opSweep (B : Nat) (s : AS) : Int32 × AS := match ff (fun b => decide ((sK s).2.2.2.1 b = 1)) B 0 with
  | none => (-1, s)
  | some b => (nI b, (sw1 (sB s) (sK s) b, s.2))
def opObject (s : AS) (root what : Int32) : Int32 := match ixN 6 what, ixN 16 root with
  | some k, some i => if sR s i = -1 then -3 else
      (if k = 0 then (sK s).1 (sR s i).toNatClampNeg else if k = 1 then sR s i else if k = 2 then sF s (sR s i).toNatClampNeg else if k = 3 then (sK s).2.2.1 ((sR s i).toNatClampNeg / 32) else if k = 4 then (sK s).2.1 (sR s i).toNatClampNeg else if sB s (sR s i).toNatClampNeg = true then nI 1 else nI 0)
  | _, _ => -2
def opAt (B : Nat) (s : AS) (word : Int32) : Int32 := match ixN (32 * B) word with
  | none => -2
  | some w => if (sK s).2.2.1 (w / 32) = -1 then -1 else (sK s).1 (w - w % cwJ (sK s).2.2.1 (w / 32))
def opBlock (B : Nat) (s : AS) (b what : Int32) : Int32 := match ixN B b, ixN 4 what with
  | some b, some k => if k = 0 then (sK s).2.2.1 b else if k = 1 then (sK s).2.2.2.1 b else if k = 2 then nI (oB (sK s).1 b) else if (sK s).2.2.1 b = -1 then nI 0 else nI (32 / cwJ (sK s).2.2.1 b) - nI (oB (sK s).1 b)
  | _, _ => -2
def hld (B : Nat) (s : AS) : List Nat := fol (tgs (sF s) (sD s) (sV s)) (16 * B + 1) 0 (heldL (sR s) (sQ s))
def opCount (B : Nat) (s : AS) (what : Int32) : Int32 := match ixN 10 what with
  | none => -2
  | some k => if k = 0 then nI (oN (sK s).1 B) else if k = 1 then nI (oW (sK s).1 (sK s).2.2.1 B) else if k = 2 then sM s else if k = 3 then sN s else if k = 4 then (sK s).2.2.2.2 else if k = 5 then nI (cn (fun b => decide ((sK s).2.2.1 b = -1)) B) else if k = 6 then nI (cn (fun b => decide ((sK s).2.2.2.1 b = 1)) B) else if k = 7 then nI (sQ s).length else if k = 8 then nI (cn (fun k => decide ((sK s).2.1 (2 * k) = 1)) (16 * B)) else nI (hld B s).length
def opSame (s : AS) (one other : Int32) : Int32 := match ixN 16 one, ixN 16 other with
  | some i, some j => if sR s i = sR s j then nI 1 else nI 0
  | _, _ => -2
/-- the rank of an object in a list -/
def rkN : List Nat → Nat → Nat
  | [], _ => 0
  | x :: r, y => if x = y then 0 else rkN r y + 1
theorem rkN_get {y : Nat} : ∀ {L : List Nat} {i : Nat}, L.Nodup → L[i]? = some y → rkN L y = i
  | [], i, _, h => by simp at h
  | x :: r, 0, _, h => by
    simp at h
    simp [rkN, h]
  | x :: r, i + 1, hn, h => by
    rw [List.nodup_cons] at hn
    rw [List.getElem?_cons_succ] at h
    have : x ≠ y := fun e => hn.1 (e ▸ List.mem_of_getElem? h)
    simp [rkN, this, rkN_get hn.2 h]
def sTm (kd vl : Nat → Int32) (L : List Nat) (w : Nat) : Int64 := if kd w = 0 then lN 3 * (vl w).toInt64 else if kd w = 1 then lN 3 * (nI (rkN L (vl w).toNatClampNeg)).toInt64 + lN 1 else lN 2
def sFl (t : Nat → Int64) (z : Int64) : Nat → Int64
  | 0 => z
  | j + 1 => lN 31 * sFl t z j + t j
def sOb (fd kd vl : Nat → Int32) (L : List Nat) (x : Nat) (z : Int64) : Int64 := sFl (fun j => sTm kd vl L (x + 1 + j)) (lN 31 * z + (fd x).toInt64) (fd x).toNatClampNeg
def sAll (fd kd vl : Nat → Int32) (L : List Nat) : Nat → Int64
  | 0 => lN 7
  | i + 1 => sOb fd kd vl L (L.getD i 0) (sAll fd kd vl L i)
def opSum (B : Nat) (s : AS) (root : Int32) : Int64 := match ixN 16 root with
  | none => -(lN 2)
  | some i => if sR s i = -1 then lN 0 else
      sAll (sF s) (sD s) (sV s) (fol (tgs (sF s) (sD s) (sV s)) (16 * B + 1) 0 [(sR s i).toNatClampNeg]) (fol (tgs (sF s) (sD s) (sV s)) (16 * B + 1) 0 [(sR s i).toNatClampNeg]).length
/-- zeros in the fields of a new object -/
def zr (f : Nat → Int32) (x m : Nat) : Nat → Int32 := fun w => bif Nat.ble (x + 1) w && Nat.ble w (x + m) then nI 0 else f w
/-- room for an object of class c, with marking if it must be -/
def rmC (B c : Nat) (s : AS) : AS × Option Nat := match fCell (sB s) B c (sK s) with
  | (K, some x) => ((K, s.2), some x)
  | (K, none) => (((fCell (sB (mrk B (K, s.2))) B c (sK (mrk B (K, s.2)))).1, (mrk B (K, s.2)).2), (fCell (sB (mrk B (K, s.2))) B c (sK (mrk B (K, s.2)))).2)
def opMake (B : Nat) (s : AS) (root n : Int32) : Int32 × AS := match ixN 16 root, ixN 16 n with
  | some i, some m => match rmC B (clsF m) s with
    | (t, none) => (-4, t)
    | (t, some x) => (sM t, ((upd (sK t).1 x (sM t), (sK t).2), upd (sF t) x (nI m), zr (sD t) x m, zr (sV t) x m, upd (sR t) i (nI x), sQ t, sM t + nI 1, sN t, sB t))
  | _, _ => (-2, s)
