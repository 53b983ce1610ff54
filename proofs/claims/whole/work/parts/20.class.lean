/-! THE CLASS: its cells. a: the arrays (0 names, 1 fields, 2 watched, 3 kinds, 4 values; 5 order, 6 ranks of marks; 7 order, 8 ranks of walk; 9 members; 10 classes, 11 unswept; 12 roots), v: the numbers (0 made, 1 markings; 2 size, 3 looked of marks; 4 size, 5 looked of walk; 6 size of the queue; 7 sweeps), r: cells of others behind them -/
def wC (B : Nat) (a : Nat → Nat → Int32) (v : Nat → Int32) (r : xW) : xW :=
  .inr (4, [.ref 1, .ref 15, .ref 13, .ref 18, .ref 7, .ref 10, .int (v 0), .int (v 1)]) ::
  .inr (2, [.ref 2, .ref 3, .ref 4, .ref 5, .ref 6]) ::
  .inl (false, 32 * B, a 0) :: .inl (false, 32 * B, a 1) :: .inl (true, 32 * B, a 2) :: .inl (false, 32 * B, a 3) :: .inl (false, 32 * B, a 4) ::
  .inr (3, [.ref 8, .ref 9, .int (v 2), .int (v 3)]) :: .inl (false, 16 * B, a 5) :: .inl (false, 32 * B, a 6) ::
  .inr (3, [.ref 11, .ref 12, .int (v 4), .int (v 5)]) :: .inl (false, 16 * B, a 7) :: .inl (false, 32 * B, a 8) ::
  .inr (1, [.ref 14, .int (v 6)]) :: .inl (false, 16 * B, a 9) ::
  .inr (0, [.ref 1, .ref 7, .ref 16, .ref 17, .int (v 7)]) :: .inl (false, B, a 10) :: .inl (true, B, a 11) ::
  .inl (false, 16, a 12) :: r
/-- an array's place gets a value -/
def uA (a : Nat → Nat → Int32) (q j : Nat) (x : Int32) : Nat → Nat → Int32 := fun i => bif Nat.beq i q then upd (a q) j x else a i
/-- a number gets a value -/
def uV (v : Nat → Int32) (q : Nat) (x : Int32) : Nat → Int32 := fun i => bif Nat.beq i q then x else v i
/-- 1 or 0 -/
def oI (p : Prop) [Decidable p] : Int32 := if p then nI 1 else nI 0
