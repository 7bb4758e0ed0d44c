/-! ===== the worlds: scalars by their field numbers, rows by their field numbers ===== -/
/-- the reference: 37 fields (17 is the long token), 12 rows -/
def modW (s : Nat → Int32) (j : Int64) (a : Nat → Nat → Int32) : List xE := [.inr (.inr (8, [.int (s 0), .int (s 1), .int (s 2), .int (s 3), .int (s 4), .int (s 5), .ref 1, .int (s 7), .ref 2, .int (s 9), .ref 3, .int (s 11), .ref 4, .int (s 13), .ref 5, .int (s 15), .int (s 16), .long j, .int (s 18), .int (s 19), .int (s 20), .int (s 21), .int (s 22), .int (s 23), .int (s 24), .ref 6, .ref 7, .ref 8, .ref 9, .ref 10, .int (s 30), .int (s 31), .int (s 32), .ref 11, .int (s 34), .int (s 35), .ref 12])), .inl (0, 6, a 6), .inl (0, 16, a 8), .inl (0, 78, a 10), .inl (0, 16, a 12), .inl (0, 200, a 14), .inl (0, 50, a 25), .inl (0, 573, a 26), .inl (0, 573, a 27), .inl (0, 1146, a 28), .inl (1, 2, a 29), .inl (0, 4, a 33), .inl (0, 3, a 36)]
/-- Told, its cells from b on (10) -/
def tolW (b : Nat) (t : Nat → Int32) (ta : Nat → Nat → Int32) : List xE := [.inr (.inr (6, [.int (t 0), .int (t 1), .int (t 2), .int (t 3), .int (t 4), .int (t 5), .ref (b + 1), .ref (b + 2), .ref (b + 3), .int (t 9), .ref (b + 4), .ref (b + 5), .int (t 12), .ref (b + 6), .ref (b + 7), .ref (b + 8), .ref (b + 9)])), .inl (0, 2, ta 6), .inl (0, 2, ta 7), .inl (0, 2, ta 8), .inl (0, 8, ta 10), .inl (0, 8, ta 11), .inl (0, 26, ta 13), .inl (0, 26, ta 14), .inl (0, 26, ta 15), .inl (0, 60, ta 16)]
/-- Day, its cells from b on (13), its Told at tb; Halts: size d 20, rows da 20 .. 23 -/
def dayW (b tb : Nat) (d : Nat → Int32) (da : Nat → Nat → Int32) : List xE := [.inr (.inr (0, [.ref tb, .int (d 1), .int (d 2), .int (d 3), .ref (b + 1), .ref (b + 2), .ref (b + 3), .int (d 7), .ref (b + 4), .ref (b + 5), .ref (b + 6), .ref (b + 7), .int (d 12), .int (d 13), .ref (b + 8)])), .inl (0, 2, da 4), .inl (0, 2, da 5), .inl (0, 2, da 6), .inl (0, 8, da 8), .inl (0, 8, da 9), .inl (0, 26, da 10), .inl (0, 12, da 11), .inr (.inr (2, [.ref (b + 9), .ref (b + 10), .ref (b + 11), .ref (b + 12), .int (d 20)])), .inl (0, 26, da 20), .inl (0, 26, da 21), .inl (0, 26, da 22), .inl (0, 26, da 23)]
/-- a truth as the machine has it -/
def bI (b : Bool) : Int32 := if b then 1 else 0
theorem bI_or (b : Bool) : bI b = 0 ∨ bI b = 1 := by cases b <;> simp [bI]
theorem bI_eq0 (b : Bool) : bI b = 0 ↔ b = false := by cases b <;> simp [bI]
theorem bI_ne0 (b : Bool) : ¬ bI b = 0 ↔ b = true := by cases b <;> simp [bI]
/-- the bit k of a set -/
def hasP (s k : Int32) : Bool := decide (s >>> (k &&& 31) &&& 1 = 1)
def inP (v a b : Int32) : Bool := decide (a ≤ v ∧ v ≤ b)
theorem i32_lt {x y : Int32} : x < y ↔ x.toInt < y.toInt := Int32.lt_iff_toInt_lt
theorem i32_le {x y : Int32} : x ≤ y ↔ x.toInt ≤ y.toInt := Int32.le_iff_toInt_le
theorem i32_eq {x y : Int32} : x = y ↔ x.toInt = y.toInt := Int32.toInt_inj.symm
