/-! ===== THE SMALL MACHINE: ints as integers, memory as a function of cell and slot; a judgement Wp over the kit's W ===== -/
/-- an int, a long, a reference to a cell of the world (or null), the law's script -/
abbrev AV : Type := Int ⊕ (Int ⊕ (Option Nat ⊕ Unit))
abbrev vI (x : Int) : AV := .inl x
abbrev vJ (x : Int) : AV := .inr (.inl x)
abbrev vR (a : Nat) : AV := .inr (.inr (.inl (some a)))
abbrev vN : AV := .inr (.inr (.inl none))
abbrev vS : AV := .inr (.inr (.inr ()))
abbrev Mem : Type := Nat → Nat → Int
/-- a cell's kind, its length, its references -/
abbrev SC : Type := Nat × Nat × List (Option Nat)
def r32 (x : Int) : Prop := -2147483648 ≤ x ∧ x < 2147483648
def r64 (x : Int) : Prop := -9223372036854775808 ≤ x ∧ x < 9223372036854775808
def okv (v : AV) : Prop := match v with
  | .inl x => r32 x
  | .inr (.inl x) => r64 x
  | _ => True
def w32 (x : Int) : Int := (x + 2147483648) % 4294967296 - 2147483648
def w64 (x : Int) : Int := (x + 9223372036854775808) % 18446744073709551616 - 9223372036854775808
theorem w32_id {x : Int} (h1 : -2147483648 ≤ x) (h2 : x < 2147483648) : w32 x = x := by unfold w32; omega
theorem w64_id {x : Int} (h1 : -9223372036854775808 ≤ x) (h2 : x < 9223372036854775808) : w64 x = x := by unfold w64; omega
theorem w32_r (x : Int) : r32 (w32 x) := by unfold w32 r32; omega
theorem w64_r (x : Int) : r64 (w64 x) := by unfold w64 r64; omega
theorem w32_bmod (x : Int) : x.bmod 4294967296 = w32 x := by
  unfold w32
  rw [Int.bmod_def]
  split <;> omega
theorem w64_bmod (x : Int) : x.bmod 18446744073709551616 = w64 x := by
  unfold w64
  rw [Int.bmod_def]
  split <;> omega
theorem i32_toInt (x : Int) : (Int32.ofInt x).toInt = w32 x := by rw [Int32.toInt_ofInt]; exact w32_bmod x
theorem i64_toInt (x : Int) : (Int64.ofInt x).toInt = w64 x := by rw [Int64.toInt_ofInt]; exact w64_bmod x
theorem i32_r {x : Int} (h : r32 x) : (Int32.ofInt x).toInt = x := by rw [i32_toInt]; exact w32_id h.1 h.2
theorem i64_r {x : Int} (h : r64 x) : (Int64.ofInt x).toInt = x := by rw [i64_toInt]; exact w64_id h.1 h.2
theorem i32_of (z : Int32) : Int32.ofInt z.toInt = z := Int32.ofInt_toInt z
theorem i64_of (z : Int64) : Int64.ofInt z.toInt = z := Int64.ofInt_toInt z
theorem r32_of (z : Int32) : r32 z.toInt := ⟨by have := z.le_toInt; omega, by have := z.toInt_lt; omega⟩
theorem r64_of (z : Int64) : r64 z.toInt := ⟨by have := z.le_toInt; omega, by have := z.toInt_lt; omega⟩
theorem i32_w (x : Int) : Int32.ofInt (w32 x) = Int32.ofInt x := by rw [← i32_toInt]; exact i32_of _
theorem i64_w (x : Int) : Int64.ofInt (w64 x) = Int64.ofInt x := by rw [← i64_toInt]; exact i64_of _
theorem i32_add (x y : Int) : Int32.ofInt x + Int32.ofInt y = Int32.ofInt (w32 (x + y)) := by rw [i32_w]; exact (Int32.ofInt_add x y).symm
theorem i32_sub (x y : Int) : Int32.ofInt x - Int32.ofInt y = Int32.ofInt (w32 (x - y)) := by rw [i32_w]; exact (Int32.ofInt_sub x y).symm
theorem i32_mul (x y : Int) : Int32.ofInt x * Int32.ofInt y = Int32.ofInt (w32 (x * y)) := by rw [i32_w]; exact (Int32.ofInt_mul x y).symm
theorem i32_neg (x : Int) : - Int32.ofInt x = Int32.ofInt (w32 (- x)) := by rw [i32_w]; exact (Int32.ofInt_neg x).symm
theorem i64_add (x y : Int) : Int64.ofInt x + Int64.ofInt y = Int64.ofInt (w64 (x + y)) := by rw [i64_w]; exact (Int64.ofInt_add x y).symm
theorem i64_sub (x y : Int) : Int64.ofInt x - Int64.ofInt y = Int64.ofInt (w64 (x - y)) := by rw [i64_w]; exact (Int64.ofInt_sub x y).symm
theorem i64_mul (x y : Int) : Int64.ofInt x * Int64.ofInt y = Int64.ofInt (w64 (x * y)) := by rw [i64_w]; exact (Int64.ofInt_mul x y).symm
theorem i32_lt {x y : Int} (hx : r32 x) (hy : r32 y) : Int32.ofInt x < Int32.ofInt y ↔ x < y := by rw [Int32.lt_iff_toInt_lt, i32_r hx, i32_r hy]
theorem i32_le {x y : Int} (hx : r32 x) (hy : r32 y) : Int32.ofInt x ≤ Int32.ofInt y ↔ x ≤ y := by rw [Int32.le_iff_toInt_le, i32_r hx, i32_r hy]
theorem i32_eq {x y : Int} (hx : r32 x) (hy : r32 y) : Int32.ofInt x = Int32.ofInt y ↔ x = y := by rw [← Int32.toInt_inj, i32_r hx, i32_r hy]
theorem i64_lt {x y : Int} (hx : r64 x) (hy : r64 y) : Int64.ofInt x < Int64.ofInt y ↔ x < y := by rw [Int64.lt_iff_toInt_lt, i64_r hx, i64_r hy]
theorem i64_eq {x y : Int} (hx : r64 x) (hy : r64 y) : Int64.ofInt x = Int64.ofInt y ↔ x = y := by rw [← Int64.toInt_inj, i64_r hx, i64_r hy]
theorem r32_0 : r32 0 := by unfold r32; omega
theorem i32_0 : (0 : Int32) = Int32.ofInt 0 := by decide
theorem i32_in {i : Int} {n : Nat} (hr : r32 i) (h0 : 0 ≤ i) (hn : i < n) : vp_in (Int32.ofInt i) n := by
  rw [vp_in_iff, i32_r hr]; exact ⟨h0, hn⟩
theorem i32_cl {i : Int} (hr : r32 i) : (Int32.ofInt i).toNatClampNeg = i.toNat := by
  show (Int32.ofInt i).toInt.toNat = i.toNat
  rw [i32_r hr]
