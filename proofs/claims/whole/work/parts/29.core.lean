/-! ===== what the two have in common of rows and law; questions on one window ===== -/
/-- rows 0 .. R-1 of the store at a are those of the reference's block at b -/
def CpRow (V : Mem) (a b R : Nat) : Prop := ∀ r, r < R → (∃ m : Nat, V (a + 6 + 2 * r) 3 = m ∧ V 381 (b + r) = m ∧ 1 ≤ m ∧ m ≤ 20 ∧ ∀ p, p < m → V (a + 7 + 2 * r) p = V 381 (b + 4 + 20 * r + p) ∧ 0 ≤ V 381 (b + 4 + 20 * r + p) ∧ V 381 (b + 4 + 20 * r + p) ≤ 99) ∧ V (a + 6 + 2 * r) 2 = V 375 (3 + 22 * r) ∧ 0 ≤ V 375 (3 + 22 * r) ∧ V 375 (3 + 22 * r) ≤ 3
/-- the common core: rows and law -/
def Icore (P : Nat → Int × Int) (n R : Nat) (V : Mem) : Prop := V 43 5 = R ∧ V 375 0 = R ∧ R ≤ 4 ∧ CpRow V 43 0 R ∧ lawX V 135 P n ∧ lawM V P n ∧ wfP P n
/-- the class's cells that questions may write -/
abbrev XSc (c : Nat) : Prop := c = 137 ∨ (103 ≤ c ∧ c ≤ 132) ∨ (146 ≤ c ∧ c ≤ 248)
abbrev MSc (c : Nat) : Prop := c = 379 ∨ c = 380 ∨ (383 ≤ c ∧ c ≤ 400)
def FrX (V V' : Mem) : Prop := ∀ c, ¬ XSc c → V' c = V c
def FrM (V V' : Mem) : Prop := (∀ c, ¬ MSc c → c ≠ 369 → V' c = V c) ∧ ∀ j, j ≠ 0 → j ≠ 22 → j ≠ 23 → j ≠ 41 → V' 369 j = V 369 j
theorem FrX.rf {V : Mem} : FrX V V := fun _ _ => rfl
theorem FrX.tr {V V1 V2 : Mem} (h : FrX V V1) (h2 : FrX V1 V2) : FrX V V2 := fun c hc => (h2 c hc).trans (h c hc)
theorem FrM.rf {V : Mem} : FrM V V := ⟨fun _ _ _ => rfl, fun _ _ _ _ _ => rfl⟩
theorem FrM.tr {V V1 V2 : Mem} (h : FrM V V1) (h2 : FrM V1 V2) : FrM V V2 := ⟨fun c a b => (h2.1 c a b).trans (h.1 c a b), fun j a b c e => (h2.2 j a b c e).trans (h.2 j a b c e)⟩
/-- the weight of place p of row r -/
def wR (P : Nat → Int × Int) (n : Nat) (V : Mem) (r p : Nat) : Int := wv (fct (V 381 (4 + 20 * r + p)) p (V 381 r) (V 375 (3 + 22 * r))) P n
abbrev FR (P : Nat → Int × Int) (n : Nat) (V : Mem) (r p q : Nat) : Prop := fol (V 375 (3 + 22 * r)) (wR P n V r p) (wR P n V r q)
abbrev winC (V : Mem) (r f t : Int) : Prop := 0 ≤ r ∧ r < V 375 0 ∧ 0 ≤ f ∧ f ≤ t ∧ t ≤ V 381 r.toNat
theorem Icore.row {P : Nat → Int × Int} {n R : Nat} {V : Mem} (h : Icore P n R V) {r : Nat} (hr : r < R) : ∃ m : Nat, V (49 + 2 * r) 3 = m ∧ V 381 r = m ∧ 1 ≤ m ∧ m ≤ 20 ∧ (∀ p, p < m → V (50 + 2 * r) p = V 381 (4 + 20 * r + p)) ∧ V (49 + 2 * r) 2 = V 375 (3 + 22 * r) ∧ 0 ≤ V 375 (3 + 22 * r) ∧ V 375 (3 + 22 * r) ≤ 3 := by
  obtain ⟨⟨m, a1, a2, a3, a4, a5⟩, b1, b2, b3⟩ := h.2.2.2.1 r hr
  rw [Nat.zero_add] at a2
  refine ⟨m, a1, a2, a3, a4, fun p hp => ?_, b1, b2, b3⟩
  have := (a5 p hp).1
  rw [Nat.zero_add] at this
  exact this
section CCO
variable {K : KK} {d : Nat} {V : Mem} {P : Nat → Int × Int} {n R : Nat}
/-- the class's loadWindow -/
theorem c_loadWindow (hI : Icore P n R V) (r f t : Int) : Mi K (d + 4) mX11_loadWindow [vR 0, vI r, vI f, vI t] V (fun z V' => FrX V V' ∧ ((¬ winC V r f t ∧ z = 0) ∨ (winC V r f t ∧ z = 1 ∧ ∃ (i lo hi m : Nat), r = i ∧ f = lo ∧ t = hi ∧ i < R ∧ lo ≤ hi ∧ hi ≤ m ∧ m ≤ 20 ∧ V 381 i = m ∧ V' 146 4 = m ∧ V' 146 6 = V 375 (3 + 22 * i) ∧ V' 146 7 = lo ∧ V' 146 8 = hi ∧ (∀ p, p < m → V' 147 p = wR P n V i p) ∧ isEnd (FR P n V i) lo hi (V' 149) ∧ isSta (FR P n V i) lo hi (V' 148) ∧ V' 146 5 = lw (FR P n V i) lo hi))) := by
  obtain ⟨hx, hr0, hR, hC, hlx, hlm, hw⟩ := id hI
  refine sX11_loadWindow r f t ⟨fun h => ?_, fun h => ⟨fun h2 => ?_, fun h2 => ?_⟩⟩
  · exact ⟨_, rfl, FrX.rf, Or.inl ⟨fun q => by omega, rfl⟩⟩
  · exact ⟨_, rfl, FrX.rf, Or.inl ⟨fun q => by rw [hx] at h2; omega, rfl⟩⟩
  · obtain ⟨i, rfl⟩ : ∃ i : Nat, r = i := ⟨r.toNat, by omega⟩
    have hi : i < R := by omega
    obtain ⟨m, m1, m2, m3, m4, m5, m6, m7, m8⟩ := hI.row hi
    rw [tn]
    refine ⟨⟨by omega, by omega⟩, fun h3 => ?_, fun h3 => ⟨fun h4 => ?_, fun h4 => ⟨fun h5 => ?_, fun h5 => ?_⟩⟩⟩
    · exact ⟨_, rfl, FrX.rf, Or.inl ⟨fun q => by omega, rfl⟩⟩
    · exact ⟨_, rfl, FrX.rf, Or.inl ⟨fun q => by omega, rfl⟩⟩
    · refine ⟨_, rfl, FrX.rf, Or.inl ⟨fun q => ?_, rfl⟩⟩
      obtain ⟨-, -, -, -, q5⟩ := q
      rw [tn] at q5
      omega
    · rw [m1] at h5
      obtain ⟨lo, rfl⟩ : ∃ lo : Nat, f = lo := ⟨f.toNat, by omega⟩
      obtain ⟨hi', rfl⟩ : ∃ hi' : Nat, t = hi' := ⟨t.toNat, by omega⟩
      have hrow : IsRow (49 + 2 * i) := by
        have := obj44 (k := (i : Int)) ⟨by omega, by omega⟩
        rw [tn] at this
        exact this
      refine (c_load (d := d + 1) is146 hrow is135 hlx hw m1 m4 (by omega) (by omega) (by omega)).use (fun V1 ⟨k1, k2, k3, k4, k5⟩ => ?_)
      have hk : V1 146 6 = V 375 (3 + 22 * i) := by rw [k4, m6]
      refine (c_measure (d := d) (lo := lo) (hi := hi') (n := m) is146 (by rw [hk]; exact ⟨m7, m8⟩) k3 (by omega) (by omega) m4).use (fun V2 ⟨g1, g2, g3, g4, g5, g6, g7⟩ => ?_)
      have hwt : ∀ p, p < m → V1 147 p = wR P n V i p := fun p hp => by
        rw [show (147 : Nat) = 146 + 1 from rfl, k5 p hp, show 49 + 2 * i + 1 = 50 + 2 * i by omega, m5 p hp, m6]
        unfold wR
        rw [m2]
      have hF : ∀ p q, lo ≤ q → q < p → p < hi' → (Fc V1 146 p q ↔ FR P n V i p q) := fun p q h1 h2 h3 => by
        unfold Fc FR
        rw [hk, show (146 + 1 : Nat) = 147 from rfl, hwt p (by omega), hwt q (by omega)]
      refine ⟨1, rfl, fun c hc => ?_, Or.inr ⟨⟨by omega, by omega, by omega, by omega, by rw [tn, m2]; omega⟩, rfl, i, lo, hi', m, rfl, rfl, rfl, hi, by omega, by omega, m4, m2, ?_, ?_, g3, g4, fun p hp => ?_, g5.congr hF, g6.congr hF, g7.trans (lw_congr hF)⟩⟩
      · rw [g1 c (by omega) (by omega) (by omega), k1 c (by omega) (by omega) (by omega)]
      · rw [g2 4 (by omega), k3]
      · rw [g2 6 (by omega), hk]
      · rw [g1 147 (by omega) (by omega) (by omega)]; exact hwt p hp
theorem x_chain (hI : Icore P n R V) (r f t : Int) : Mi K (d + 5) mX11_chain [vR 0, vI r, vI f, vI t] V (fun z V' => FrX V V' ∧ z = if winC V r f t then lw (FR P n V r.toNat) f.toNat t.toNat else -1) := by
  refine sX11_chain r f t ((c_loadWindow (d := d) hI r f t).use (fun z V' ⟨h1, h2⟩ => ?_))
  rcases h2 with ⟨q1, rfl⟩ | ⟨q1, rfl, i, lo, hi, m, rfl, rfl, rfl, b1, b2, b3, b4, b5, b6, b7, b8, b9, b10, b11, b12, b13⟩
  · refine ⟨fun _ => ⟨_, rfl, h1, by rw [if_neg q1]⟩, fun c => absurd rfl c⟩
  · refine ⟨fun c => absurd c (by decide), fun _ => ⟨_, rfl, h1, ?_⟩⟩
    rw [if_pos q1, tn, tn, tn, b13]
end CCO
