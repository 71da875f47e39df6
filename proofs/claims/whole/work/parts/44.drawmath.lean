/-! ===== rows by draws, both sides ===== -/
theorem land31 {x : Int} (h0 : 0 ≤ x) (h : x < 9223372036854775808) : b_land x 2147483647 = x % 2147483648 := by
  obtain ⟨k, rfl⟩ : ∃ k : Nat, x = k := ⟨x.toNat, by omega⟩
  have e : (Int64.ofInt (k : Int) &&& Int64.ofInt 2147483647) = Int64.ofInt ((k % 2147483648 : Nat) : Int) := by
    apply Int64.toBitVec.inj
    rw [Int64.toBitVec_and, Int64.toBitVec_ofInt, Int64.toBitVec_ofInt, Int64.toBitVec_ofInt]
    apply BitVec.eq_of_toNat_eq
    rw [BitVec.toNat_and, BitVec.ofInt_natCast, BitVec.ofInt_natCast, BitVec.toNat_ofNat, BitVec.toNat_ofNat]
    rw [show (BitVec.ofInt 64 2147483647).toNat = 2 ^ 31 - 1 from rfl, Nat.and_two_pow_sub_one_eq_mod]
    omega
  unfold b_land
  rw [e, i64_r ⟨by omega, by omega⟩]
  omega
def gnx (g : Int) : Int := (g * 1103515245 + 12345) % 2147483648
def gnk (s : Int) : Nat → Int
  | 0 => s
  | k + 1 => gnx (gnk s k)
theorem gnk_r {s : Int} (hs : 0 ≤ s ∧ s ≤ 9999) : ∀ k, 0 ≤ gnk s k ∧ gnk s k < 2147483648
  | 0 => ⟨hs.1, by show s < _; omega⟩
  | k + 1 => by
    show 0 ≤ (gnk s k * 1103515245 + 12345) % 2147483648 ∧ (gnk s k * 1103515245 + 12345) % 2147483648 < 2147483648
    omega
def drw (s b : Int) (k : Nat) : Int := (gnk s (k + 1) / 65536) % b
theorem gx_c {g : Int} (h : 0 ≤ g ∧ g < 2147483648) : b_land (w64 (w64 (g * 1103515245) + 12345)) 2147483647 = gnx g := by
  rw [w64_id (x := g * 1103515245) (by omega) (by omega), w64_id (by omega) (by omega), land31 (by omega) (by omega)]
  rfl
theorem gx_m {g : Int} (h : 0 ≤ g ∧ g < 2147483648) : w64 (w64 (w64 (g * 1103515245) + 12345) - w64 (w64 (Int.tdiv (w64 (w64 (g * 1103515245) + 12345)) 2147483648) * 2147483648)) = gnx g := by
  rw [w64_id (x := g * 1103515245) (by omega) (by omega), w64_id (x := g * 1103515245 + 12345) (by omega) (by omega), Int.tdiv_eq_ediv_of_nonneg (by omega)]
  unfold gnx
  have hx : 0 ≤ g * 1103515245 + 12345 ∧ g * 1103515245 + 12345 < 4611686018427387904 := by omega
  generalize g * 1103515245 + 12345 = x at *
  rw [w64_id (x := x / 2147483648) (by omega) (by omega), w64_id (x := x / 2147483648 * 2147483648) (by omega) (by omega), w64_id (by omega) (by omega)]
  omega
theorem ed_mul {t b : Int} (ht : 0 ≤ t) (hb : 1 ≤ b) : 0 ≤ t / b ∧ 0 ≤ t / b * b ∧ t / b * b ≤ t ∧ t / b ≤ t ∧ t - t / b * b = t % b := by
  have h1 := Int.ediv_nonneg ht (show 0 ≤ b by omega)
  have h2 := Int.mul_ediv_add_emod t b
  have h3 := Int.emod_nonneg t (show b ≠ 0 by omega)
  have h4 : b * (t / b) = t / b * b := Int.mul_comm _ _
  have h5 : 0 ≤ t / b * b := Int.mul_nonneg h1 (by omega)
  have h6 : t / b ≤ t := Int.ediv_le_self b ht
  generalize t / b * b = z at *
  rw [h4] at h2
  exact ⟨h1, h5, by omega, h6, by omega⟩
theorem dr_c {g b : Int} (h : 0 ≤ g ∧ g < 2147483648) (hb : 1 ≤ b ∧ b ≤ 100) : w32 (w32 (w64 (Int.tdiv g 65536)) - w32 (w32 (Int.tdiv (w32 (w64 (Int.tdiv g 65536))) b) * b)) = g / 65536 % b := by
  rw [Int.tdiv_eq_ediv_of_nonneg h.1, w64_id (x := g / 65536) (by omega) (by omega), w32_id (x := g / 65536) (by omega) (by omega), Int.tdiv_eq_ediv_of_nonneg (by omega)]
  have ht : 0 ≤ g / 65536 ∧ g / 65536 < 32768 := by omega
  generalize g / 65536 = t at *
  obtain ⟨q1, q2, q3, q4, q5⟩ := ed_mul ht.1 hb.1
  rw [w32_id (x := t / b) (by omega) (by omega), w32_id (x := t / b * b) (by omega) (by omega), w32_id (by omega) (by omega), q5]
theorem dr_m {g b : Int} (h : 0 ≤ g ∧ g < 2147483648) (hb : 1 ≤ b ∧ b ≤ 100) : w32 (w64 (w64 (Int.tdiv g 65536) - w64 (w64 (Int.tdiv (w64 (Int.tdiv g 65536)) b) * b))) = g / 65536 % b := by
  rw [Int.tdiv_eq_ediv_of_nonneg h.1, w64_id (x := g / 65536) (by omega) (by omega), Int.tdiv_eq_ediv_of_nonneg (by omega)]
  have ht : 0 ≤ g / 65536 ∧ g / 65536 < 32768 := by omega
  generalize g / 65536 = t at *
  obtain ⟨q1, q2, q3, q4, q5⟩ := ed_mul ht.1 hb.1
  rw [w64_id (x := t / b) (by omega) (by omega), w64_id (x := t / b * b) (by omega) (by omega), w64_id (x := t - t / b * b) (by omega) (by omega), w32_id (by omega) (by omega), q5]
/-- the weights of a drawn row -/
def wD (P : Nat → Int × Int) (n : Nat) (s b : Int) (m p : Nat) : Int := wv (fct (drw s b p) p m 0) P n
abbrev FD (P : Nat → Int × Int) (n : Nat) (s b : Int) (m : Nat) (p q : Nat) : Prop := fol 0 (wD P n s b m p) (wD P n s b m q)
abbrev drC (s m b w : Int) : Prop := (0 ≤ s ∧ s ≤ 9999) ∧ (1 ≤ m ∧ m ≤ 20) ∧ (1 ≤ b ∧ b ≤ 100) ∧ 0 ≤ w ∧ w ≤ 2
noncomputable def drR (P : Nat → Int × Int) (n : Nat) (s m b w : Int) : Int := if w = 2 then und (lw (FD P n s b m.toNat)) m.toNat 0 m.toNat m.toNat else if w = 0 then lw (FD P n s b m.toNat) 0 m.toNat else nw (FD P n s b m.toNat) 0 m.toNat
