/-! ===== questions on one window, the reference's side ===== -/
theorem CpRow.fr {V V1 : Mem} {a b R : Nat} (h : CpRow V a b R) (h1 : V1 375 = V 375) (h2 : V1 381 = V 381) (h3 : ∀ r, r < R → V1 (a + 6 + 2 * r) = V (a + 6 + 2 * r) ∧ V1 (a + 7 + 2 * r) = V (a + 7 + 2 * r)) : CpRow V1 a b R := by
  intro r hr
  obtain ⟨e1, e2⟩ := h3 r hr
  rw [h1, h2, e1, e2]
  exact h r hr
theorem Icore.fr {P : Nat → Int × Int} {n R : Nat} {V V1 : Mem} (h : Icore P n R V) (h1 : ∀ c, c = 43 ∨ (49 ≤ c ∧ c ≤ 56) ∨ c = 135 ∨ c = 136 ∨ c = 375 ∨ c = 376 ∨ c = 381 → V1 c = V c) : Icore P n R V1 := by
  obtain ⟨a1, a2, a3, a4, a5, a6, a7⟩ := h
  refine ⟨by rw [h1 43 (by omega)]; exact a1, by rw [h1 375 (by omega)]; exact a2, a3, a4.fr (h1 375 (by omega)) (h1 381 (by omega)) (fun r hr => ⟨h1 _ (by omega), h1 _ (by omega)⟩), ⟨by rw [h1 135 (by omega)]; exact a5.1, a5.2.1, fun i hi => by rw [h1 (135 + 1) (by omega)]; exact a5.2.2 i hi⟩, ?_, a7⟩
  rcases a6 with ⟨q1, q2, q3⟩ | ⟨o, q1, q2, q3, q4⟩
  · exact Or.inl ⟨by rw [h1 375 (by omega)]; exact q1, q2, q3⟩
  · exact Or.inr ⟨o, by rw [h1 375 (by omega)]; exact q1, q2, fun i hi => by rw [h1 376 (by omega)]; exact q3 i hi, by rw [h1 376 (by omega)]; exact q4⟩
theorem Icore.frX {P : Nat → Int × Int} {n R : Nat} {V V1 : Mem} (h : Icore P n R V) (h1 : FrX V V1) : Icore P n R V1 := h.fr (fun c hc => h1 c (by omega))
theorem Icore.frM {P : Nat → Int × Int} {n R : Nat} {V V1 : Mem} (h : Icore P n R V) (h1 : FrM V V1) : Icore P n R V1 := h.fr (fun c hc => h1.1 c (by omega) (by omega))
theorem wR_fr {P : Nat → Int × Int} {n : Nat} {V V1 : Mem} (h1 : V1 375 = V 375) (h2 : V1 381 = V 381) : wR P n V1 = wR P n V := by
  funext r p
  unfold wR
  rw [h1, h2]
theorem FrM.c375 {V V1 : Mem} (h : FrM V V1) : V1 375 = V 375 := h.1 375 (by omega) (by omega)
theorem FrM.c381 {V V1 : Mem} (h : FrM V V1) : V1 381 = V 381 := h.1 381 (by omega) (by omega)
theorem FrM.th {V : Mem} (z : Int) : FrM V (upm V 369 0 z) := ⟨fun c _ h => upm_off c h, fun j h _ _ _ => upm_k h⟩
/-- the place of a window in the reference's table -/
theorem ix21 {i j : Nat} (hi : i ≤ 20) (hj : j ≤ 20) : w32 (w32 (21 * (i : Int)) + (j : Int)) = ((21 * i + j : Nat) : Int) := by
  rw [w32_id (x := 21 * (i : Int)) (by omega) (by omega), w32_id (by omega) (by omega)]; omega
/-- what the reference has laid out of row i -/
def Laid (P : Nat → Int × Int) (n : Nat) (V : Mem) (i m : Nat) (V4 : Mem) : Prop := FrM V V4 ∧ V4 369 22 = V 375 (3 + 22 * i) ∧ V4 369 23 = m ∧ (∀ p, p < m → V4 383 p = wR P n V i p) ∧ ∀ a b, a ≤ b → b ≤ m → V4 384 (21 * a + b) = lw (FR P n V i) a b
theorem Fm_FR {P : Nat → Int × Int} {n : Nat} {V V4 : Mem} {i m : Nat} (h1 : V4 369 22 = V 375 (3 + 22 * i)) (h2 : ∀ p, p < m → V4 383 p = wR P n V i p) {p q : Nat} (hp : p < m) (hq : q < m) : Fm V4 p q ↔ FR P n V i p q := by
  unfold Fm FR
  rw [h1, h2 p hp, h2 q hq]
section CWI
variable {K : KK} {d : Nat} {V : Mem} {P : Nat → Int × Int} {n R : Nat}
theorem m_laysAll {V1 : Mem} {T : Mem → Prop} (hI : Icore P n R V) (hV : FrM V V1) {i m : Nat} (hi : i < R) (hm : V 381 i = m) (ht : ∀ V4, Laid P n V i m V4 → T V4) : Mf K (d + 3) mX12_laysRow [vR 369, vI (i : Int)] V1 (fun r V3 => r = none ∧ Mf K (d + 3) mX12_findsLongs [vR 369] V3 (fun r V4 => r = none ∧ T V4)) := by
  have hI1 := hI.frM hV
  obtain ⟨m', m1, m2, m3, m4, m5, m6, m7, m8⟩ := hI.row hi
  have : m' = m := by omega
  subst this
  have h4 : R ≤ 4 := hI.2.2.1
  refine (m_laysRow (d := d) (V := V1) hI1.2.2.2.2.2.1 hI1.2.2.2.2.2.2 (by omega) (by rw [hV.c381]; exact hm) m4).use (fun V3 ⟨k1, k2, k3, k4, k5⟩ => ?_)
  rw [hV.c375] at k3
  have f13 : FrM V V3 := hV.tr ⟨fun c q1 q2 => k1 c q2 (by omega) (by omega) (by omega), fun j _ q2 q3 _ => k2 j q2 q3⟩
  have hwt : ∀ p, p < m' → V3 383 p = wR P n V i p := fun p hp => by
    rw [k5 p hp, hV.c375, hV.c381]
    unfold wR
    rw [hm]
  refine (m_findsLongs (d := d + 1) (V := V3) (n := m') (by rw [k3]; exact ⟨m7, m8⟩) k4 m4).use (fun V4 ⟨g1, g2⟩ => ht V4 ⟨f13.tr ⟨fun c q1 q2 => g1 c (by omega) (by omega) (by omega), fun j _ _ _ _ => by rw [g1 369 (by omega) (by omega) (by omega)]⟩, ?_, ?_, fun p hp => ?_, fun a b h1 h2 => ?_⟩)
  · rw [g1 369 (by omega) (by omega) (by omega)]; exact k3
  · rw [g1 369 (by omega) (by omega) (by omega)]; exact k4
  · rw [g1 383 (by omega) (by omega) (by omega)]; exact hwt p hp
  · rw [g2 a b h1 h2]
    exact lw_congr (fun p q _ _ _ => Fm_FR k3 hwt (by omega) (by omega))
/-- the head of a question on a window: thrown is 0; is it a window? if so, the row is laid out -/
theorem m_window {T : Int → Mem → Prop} (hI : Icore P n R V) (r f t : Int) (h0 : ¬ winC V r f t → ∀ V1, FrM V V1 → T 0 V1) (h1 : ∀ (i lo hi m : Nat), r = i → f = lo → t = hi → i < R → lo ≤ hi → hi ≤ m → m ≤ 20 → V 381 i = m → winC V r f t → ∀ V1, FrM V V1 → T 1 V1) : Mi K (d + 2) mX12_isWindow [vR 369, vI r, vI f, vI t] (upm V 369 0 0) T := by
  obtain ⟨hx, hr0, hR, hC, hlx, hlm, hw⟩ := id hI
  have f0 : FrM V (upm V 369 0 0) := FrM.th 0
  refine (m_isWindow (d := d) (by rw [f0.c375, hr0]; omega) r f t).use ?_
  rw [f0.c375, f0.c381]
  by_cases hc : winC V r f t
  · rw [if_pos hc]
    obtain ⟨c1, c2, c3, c4, c5⟩ := id hc
    have hi : r.toNat < R := by omega
    obtain ⟨m, m1, m2, m3, m4, -⟩ := hI.row hi
    refine h1 r.toNat f.toNat t.toNat m (by omega) (by omega) (by omega) hi (by omega) (by omega) m4 m2 hc _ f0
  · rw [if_neg hc]
    exact h0 hc _ f0
theorem m_chain (hI : Icore P n R V) (r f t : Int) : Mi K (d + 5) mX12_chain [vR 369, vI r, vI f, vI t] V (fun z V' => FrM V V' ∧ z = if winC V r f t then lw (FR P n V r.toNat) f.toNat t.toNat else -1) := by
  refine sX12_chain r f t (m_window (d := d + 2) hI r f t (fun hc V1 hV => ⟨fun c => absurd rfl c, fun _ => ⟨_, rfl, hV, by rw [if_neg hc]⟩⟩) ?_)
  rintro i lo hi m rfl rfl rfl b1 b2 b3 b4 b5 hc V1 hV
  refine ⟨fun _ => m_laysAll (d := d) hI hV b1 b5 (fun V4 ⟨g1, g2, g3, g4, g5⟩ => ?_), fun c => absurd c (by decide)⟩
  rw [ix21 (by omega) (by omega), tn]
  refine ⟨⟨by omega, by omega⟩, _, rfl, g1, ?_⟩
  rw [if_pos hc, tn, tn, tn, g5 lo hi b2 b3]
theorem x_bare (hI : Icore P n R V) (r f t : Int) : Mi K (d + 5) mX11_bare [vR 0, vI r, vI f, vI t] V (fun z V' => FrX V V' ∧ z = if winC V r f t then t - f - lw (FR P n V r.toNat) f.toNat t.toNat else -1) := by
  refine sX11_bare r f t ((c_loadWindow (d := d) hI r f t).use (fun z V' ⟨h1, h2⟩ => ?_))
  rcases h2 with ⟨q1, rfl⟩ | ⟨q1, rfl, i, lo, hi, m, rfl, rfl, rfl, b1, b2, b3, b4, b5, b6, b7, b8, b9, b10, b11, b12, b13⟩
  · refine ⟨fun _ => ⟨_, rfl, h1, by rw [if_neg q1]⟩, fun c => absurd rfl c⟩
  · refine ⟨fun c => absurd c (by decide), fun _ => ⟨_, rfl, h1, ?_⟩⟩
    have := lw_r (F := FR P n V i) (lo := lo) (hi := hi) b2
    rw [if_pos q1, tn, tn, tn, b13, w32_id (x := (hi : Int) - lo) (by omega) (by omega), w32_id (by omega) (by omega)]
theorem m_bare (hI : Icore P n R V) (r f t : Int) : Mi K (d + 5) mX12_bare [vR 369, vI r, vI f, vI t] V (fun z V' => FrM V V' ∧ z = if winC V r f t then t - f - lw (FR P n V r.toNat) f.toNat t.toNat else -1) := by
  refine sX12_bare r f t (m_window (d := d + 2) hI r f t (fun hc V1 hV => ⟨fun c => absurd rfl c, fun _ => ⟨_, rfl, hV, by rw [if_neg hc]⟩⟩) ?_)
  rintro i lo hi m rfl rfl rfl b1 b2 b3 b4 b5 hc V1 hV
  refine ⟨fun _ => m_laysAll (d := d) hI hV b1 b5 (fun V4 ⟨g1, g2, g3, g4, g5⟩ => ?_), fun c => absurd c (by decide)⟩
  refine (m_bareAt (d := d + 3) (V := V4) (n := m) b4 (by omega) b3 (fun a b h1 h2 => by
    rw [g5 a b h1 h2]
    have := lw_r (F := FR P n V i) (lo := a) (hi := b) h1
    omega)).use ⟨_, rfl, g1, ?_⟩
  rw [if_pos hc, tn, tn, tn]
  unfold lft
  rw [if_pos b2]
  exact congrArg (fun z => (hi : Int) - lo - z) (g5 lo hi b2 b3)
end CWI
