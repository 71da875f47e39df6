/-! ===== strands: where the table of what windows leave has a unit ===== -/
def unt (T : Nat → Nat → Int) (a k : Nat) : Int := lft T a (k + 1) - lft T (a + 1) (k + 1) - lft T a k + lft T (a + 1) k
def sfk (u : Nat → Int) (k : Nat) : Nat → Int
  | 0 => -1
  | f + 1 => if u k = 1 then (k : Int) else sfk u (k + 1) f
/-- where the strand of place a ends, in a table of m places; -1 if nowhere -/
def sfn (T : Nat → Nat → Int) (m a : Nat) : Int := sfk (unt T a) a (m - a)
theorem lft_congr {T T2 : Nat → Nat → Int} {m : Nat} (h : ∀ i j, i ≤ j → j ≤ m → T i j = T2 i j) {p q : Nat} (hq : q ≤ m) : lft T p q = lft T2 p q := by
  unfold lft
  by_cases c : p ≤ q
  · rw [if_pos c, if_pos c, h p q c hq]
  · rw [if_neg c, if_neg c]
theorem sfk_congr {u u2 : Nat → Int} : ∀ (f k m : Nat), k + f ≤ m → (∀ j, j < m → u j = u2 j) → sfk u k f = sfk u2 k f
  | 0, _, _, _, _ => rfl
  | f + 1, k, m, h, hu => by
    unfold sfk
    rw [hu k (by omega), sfk_congr f (k + 1) m (by omega) hu]
theorem sfn_congr {T T2 : Nat → Nat → Int} {m a : Nat} (h : ∀ i j, i ≤ j → j ≤ m → T i j = T2 i j) : sfn T m a = sfn T2 m a := by
  unfold sfn
  rcases Nat.le_total a m with q | q
  · refine sfk_congr (m - a) a m (by omega) (fun j hj => ?_)
    unfold unt
    rw [lft_congr h (by omega), lft_congr h (by omega), lft_congr h (by omega), lft_congr h (by omega)]
  · rw [show m - a = 0 by omega]; rfl
theorem sfk_r {u : Nat → Int} : ∀ (f k : Nat), -1 ≤ sfk u k f ∧ sfk u k f < (k : Int) + f
  | 0, k => ⟨by unfold sfk; omega, by unfold sfk; omega⟩
  | f + 1, k => by
    have ih := sfk_r (u := u) f (k + 1)
    unfold sfk
    split <;> omega
theorem sfn_r {T : Nat → Nat → Int} {m a : Nat} (h : a ≤ m) : -1 ≤ sfn T m a ∧ sfn T m a < m := by
  have := sfk_r (u := unt T a) (m - a) a
  unfold sfn
  omega
theorem lft_r {T : Nat → Nat → Int} {m : Nat} (hm : m ≤ 20) (hb : ∀ i j, i ≤ j → j ≤ m → 0 ≤ T i j ∧ T i j ≤ 20) {p q : Nat} (hq : q ≤ m) : -20 ≤ lft T p q ∧ lft T p q ≤ 20 := by
  unfold lft
  split
  · rename_i c
    have := hb p q c hq
    omega
  · omega
section CST
variable {K : KK} {d : Nat} {V : Mem} {P : Nat → Int × Int} {n R : Nat}
theorem c_strandFrom {a m : Nat} (hm : V 156 2 = m) (h20 : m ≤ 20) (ha : a ≤ m) (hb : ∀ i j, i ≤ j → j ≤ m → 0 ≤ V (158 + i) j ∧ V (158 + i) j ≤ 20) : Pu K (d + 2) mX10_strandFrom [vR 156, vI (a : Int)] V (sfn (fun i j => V (158 + i) j) m a) := by
  refine sX10_strandFrom a ?_
  have wqA : ∀ k, k ≤ m → Wf K (d + 2) mX10_strandFrom 2 [some (vR 156), some (vI (a : Int)), some (vI (k : Int)), none] [] V (fun r V' => ∃ z, r = some (vI z) ∧ z = sfk (unt (fun i j => V (158 + i) j) a) k (m - k) ∧ V' = V) := by
    refine up_ind ?_ ?_
    · refine sX10_strandFrom_2 _ _ ⟨fun _ => ⟨_, rfl, by rw [Nat.sub_self]; rfl, rfl⟩, fun c => absurd (by rw [hm]; exact Int.le_refl _) c⟩
    · intro k hk ih
      refine sX10_strandFrom_2 _ _ ⟨fun c => absurd c (by rw [hm]; omega), fun _ => ?_⟩
      rw [w32_s (by omega), w32_s (by omega)]
      refine (c_left (d := d) hm h20 (by omega) hb).use ((c_left (d := d) hm h20 (by omega) hb).use ((c_left (d := d) hm h20 (by omega) hb).use ((c_left (d := d) hm h20 (by omega) hb).use ?_)))
      have b1 := lft_r (T := fun i j => V (158 + i) j) (m := m) h20 hb (p := a) (q := k + 1) (by omega)
      have b2 := lft_r (T := fun i j => V (158 + i) j) (m := m) h20 hb (p := a + 1) (q := k + 1) (by omega)
      have b3 := lft_r (T := fun i j => V (158 + i) j) (m := m) h20 hb (p := a) (q := k) (by omega)
      have b4 := lft_r (T := fun i j => V (158 + i) j) (m := m) h20 hb (p := a + 1) (q := k) (by omega)
      rw [show m - k = (m - (k + 1)) + 1 by omega]
      unfold sfk
      unfold unt
      generalize lft (fun i j => V (158 + i) j) a (k + 1) = y1 at *
      generalize lft (fun i j => V (158 + i) j) (a + 1) (k + 1) = y2 at *
      generalize lft (fun i j => V (158 + i) j) a k = y3 at *
      generalize lft (fun i j => V (158 + i) j) (a + 1) k = y4 at *
      rw [w32_id (x := y1 - y2) (by omega) (by omega), w32_id (x := y1 - y2 - y3) (by omega) (by omega), w32_id (x := y1 - y2 - y3 + y4) (by omega) (by omega)]
      refine ⟨fun c => ?_, fun c => ⟨_, rfl, by rw [if_pos c], rfl⟩⟩
      rw [if_neg c]
      exact ih
  exact wqA a ha
theorem m_strandOf {a m : Nat} (hm : V 369 23 = m) (h20 : m ≤ 20) (ha : a ≤ m) (ha2 : a < 20) (hb : ∀ i j, i ≤ j → j ≤ m → 0 ≤ V 384 (21 * i + j) ∧ V 384 (21 * i + j) ≤ 20) : Pu K (d + 2) mX12_strandOf [vR 369, vI (a : Int)] V (sfn (fun i j => V 384 (21 * i + j)) m a) := by
  refine sX12_strandOf a ?_
  have wqA : ∀ k, k ≤ m → Wf K (d + 2) mX12_strandOf 2 [some (vR 369), some (vI (a : Int)), some (vI (k : Int))] [] V (fun r V' => ∃ z, r = some (vI z) ∧ z = sfk (unt (fun i j => V 384 (21 * i + j)) a) k (m - k) ∧ V' = V) := by
    refine up_ind ?_ ?_
    · refine sX12_strandOf_2 _ _ ⟨fun _ => ⟨_, rfl, by rw [Nat.sub_self]; rfl, rfl⟩, fun c => absurd (by rw [hm]; exact Int.le_refl _) c⟩
    · intro k hk ih
      refine sX12_strandOf_2 _ _ ⟨fun c => absurd c (by rw [hm]; omega), fun _ => ?_⟩
      rw [w32_s (by omega), w32_s (by omega)]
      refine (m_bareAt (d := d) h20 (by omega) (by omega) hb).use ((m_bareAt (d := d) h20 (by omega) (by omega) hb).use ((m_bareAt (d := d) h20 (by omega) (by omega) hb).use ((m_bareAt (d := d) h20 (by omega) (by omega) hb).use ?_)))
      have b1 := lft_r (T := fun i j => V 384 (21 * i + j)) (m := m) h20 hb (p := a) (q := k + 1) (by omega)
      have b2 := lft_r (T := fun i j => V 384 (21 * i + j)) (m := m) h20 hb (p := a + 1) (q := k + 1) (by omega)
      have b3 := lft_r (T := fun i j => V 384 (21 * i + j)) (m := m) h20 hb (p := a) (q := k) (by omega)
      have b4 := lft_r (T := fun i j => V 384 (21 * i + j)) (m := m) h20 hb (p := a + 1) (q := k) (by omega)
      rw [show m - k = (m - (k + 1)) + 1 by omega]
      unfold sfk
      unfold unt
      generalize lft (fun i j => V 384 (21 * i + j)) a (k + 1) = y1 at *
      generalize lft (fun i j => V 384 (21 * i + j)) (a + 1) (k + 1) = y2 at *
      generalize lft (fun i j => V 384 (21 * i + j)) a k = y3 at *
      generalize lft (fun i j => V 384 (21 * i + j)) (a + 1) k = y4 at *
      rw [w32_id (x := y1 - y2) (by omega) (by omega), w32_id (x := y1 - y2 - y3) (by omega) (by omega), w32_id (x := y1 - y2 - y3 + y4) (by omega) (by omega)]
      refine ⟨fun c => ?_, fun c => ⟨_, rfl, by rw [if_pos c], rfl⟩⟩
      rw [if_neg c]
      exact ih
  exact wqA a ha
/-- what the class has laid out of row i in its windows -/
def LaidX (P : Nat → Int × Int) (n : Nat) (V : Mem) (i m : Nat) (V4 : Mem) : Prop := FrX V V4 ∧ V4 156 2 = m ∧ (∀ a b, a ≤ b → b ≤ m → V4 (158 + a) b = lw (FR P n V i) a b)
theorem LaidX.b {V V4 : Mem} {i m : Nat} (h : LaidX P n V i m V4) (h20 : m ≤ 20) : ∀ a b, a ≤ b → b ≤ m → 0 ≤ V4 (158 + a) b ∧ V4 (158 + a) b ≤ 20 := fun a b h1 h2 => by
  rw [h.2.2 a b h1 h2]
  have := lw_r (F := FR P n V i) (lo := a) (hi := b) h1
  omega
theorem Laid.b {V V4 : Mem} {i m : Nat} (h : Laid P n V i m V4) (h20 : m ≤ 20) : ∀ a b, a ≤ b → b ≤ m → 0 ≤ V4 384 (21 * a + b) ∧ V4 384 (21 * a + b) ≤ 20 := fun a b h1 h2 => by
  rw [h.2.2.2.2 a b h1 h2]
  have := lw_r (F := FR P n V i) (lo := a) (hi := b) h1
  omega
theorem c_loadFill {T : Mem → Prop} (hI : Icore P n R V) {i m : Nat} (hi : i < R) (hm : V 381 i = m) (ht : ∀ V4, LaidX P n V i m V4 → T V4) : Mf K (d + 4) mX1_load [vR 146, vR (49 + 2 * i), vR 135] V (fun r V3 => r = none ∧ Mf K (d + 4) mX10_fillChains [vR 156, vR 146] V3 (fun r V4 => r = none ∧ T V4)) := by
  obtain ⟨hx, hr0, hR, hC, hlx, hlm, hw⟩ := id hI
  obtain ⟨m', m1, m2, m3, m4, m5, m6, m7, m8⟩ := hI.row hi
  have : m' = m := by omega
  subst this
  have hrow : IsRow (49 + 2 * i) := by
    have := obj44 (k := (i : Int)) ⟨by omega, by omega⟩
    rw [tn] at this
    exact this
  refine (c_load (d := d + 2) is146 hrow is135 hlx hw m1 m4 (by omega) (by omega) (by omega)).use (fun V1 ⟨k1, k2, k3, k4, k5⟩ => ?_)
  have hk : V1 146 6 = V 375 (3 + 22 * i) := by rw [k4, m6]
  have hwt : ∀ p, p < m' → V1 147 p = wR P n V i p := fun p hp => by
    rw [show (147 : Nat) = 146 + 1 from rfl, k5 p hp, show 49 + 2 * i + 1 = 50 + 2 * i by omega, m5 p hp, m6]
    unfold wR
    rw [m2]
  refine (c_fillChains (d := d) (n := m') is146 (by omega) (by rw [hk]; exact ⟨m7, m8⟩) k3 m4).use (fun V2 ⟨g1, g2, g3, g4⟩ => ht V2 ⟨fun c hc => ?_, g3, fun a b h1 h2 => ?_⟩)
  · rw [g1 c (by omega) (by omega) (by omega), k1 c (by omega) (by omega) (by omega)]
  · rw [g4 a b h1 h2]
    refine lw_congr (fun p q h3 h4 h5 => ?_)
    unfold Fc FR
    rw [hk, show (146 + 1 : Nat) = 147 from rfl, hwt p (by omega), hwt q (by omega)]
abbrev plC (V : Mem) (r p : Int) : Prop := 0 ≤ r ∧ r < V 375 0 ∧ 0 ≤ p ∧ p < V 381 r.toNat
theorem x_strand (hI : Icore P n R V) (r p : Int) : Mi K (d + 6) mX11_strand [vR 0, vI r, vI p] V (fun z V' => FrX V V' ∧ z = if plC V r p then sfn (lw (FR P n V r.toNat)) (V 381 r.toNat).toNat p.toNat else -1) := by
  obtain ⟨hx, hr0, hR, hC, hlx, hlm, hw⟩ := id hI
  refine sX11_strand r p ⟨fun h => ⟨_, rfl, FrX.rf, by rw [if_neg (by omega)]⟩, fun h => ⟨fun h2 => ⟨_, rfl, FrX.rf, by rw [hx] at h2; rw [if_neg (by omega)]⟩, fun h2 => ?_⟩⟩
  obtain ⟨i, rfl⟩ : ∃ i : Nat, r = i := ⟨r.toNat, by omega⟩
  have hi : i < R := by omega
  obtain ⟨m, m1, m2, m3, m4, m5, m6, m7, m8⟩ := hI.row hi
  have hrow : IsRow (49 + 2 * i) := by
    have := obj44 (k := (i : Int)) ⟨by omega, by omega⟩
    rw [tn] at this
    exact this
  simp only [tn]
  refine ⟨⟨by omega, by omega⟩, (c_hasPlace (d := d + 5) hrow p).use ?_⟩
  rw [m1]
  by_cases hc : 0 ≤ p ∧ p < (m : Int) ∧ p < 20
  · rw [if_pos hc]
    refine ⟨fun _ => c_loadFill (d := d) hI hi m2 (fun V4 hL => ?_), fun c => absurd c (by decide)⟩
    obtain ⟨q, rfl⟩ : ∃ q : Nat, p = q := ⟨p.toNat, by omega⟩
    refine (c_strandFrom (d := d + 3) (V := V4) hL.2.1 m4 (by omega) (hL.b m4)).use ⟨_, rfl, hL.1, ?_⟩
    rw [if_pos ⟨by omega, by omega, by omega, by rw [tn, m2]; omega⟩, m2, tn]
    exact sfn_congr (fun a b h1 h2 => hL.2.2 a b h1 h2)
  · rw [if_neg hc]
    refine ⟨fun c => absurd rfl c, fun _ => ⟨_, rfl, FrX.rf, ?_⟩⟩
    rw [if_neg (fun q => hc (by obtain ⟨-, -, q3, q4⟩ := q; rw [tn, m2] at q4; omega))]
theorem m_strand (hI : Icore P n R V) (r p : Int) : Mi K (d + 5) mX12_strand [vR 369, vI r, vI p] V (fun z V' => FrM V V' ∧ z = if plC V r p then sfn (lw (FR P n V r.toNat)) (V 381 r.toNat).toNat p.toNat else -1) := by
  obtain ⟨hx, hr0, hR, hC, hlx, hlm, hw⟩ := id hI
  have f0 : FrM V (upm V 369 0 0) := FrM.th 0
  refine sX12_strand r p ((m_isPlace (d := d + 2) (by rw [f0.c375, hr0]; omega) r p).use ?_)
  rw [f0.c375, f0.c381]
  by_cases hc : plC V r p
  · rw [if_pos hc]
    obtain ⟨c1, c2, c3, c4⟩ := id hc
    obtain ⟨i, rfl⟩ : ∃ i : Nat, r = i := ⟨r.toNat, by omega⟩
    rw [tn] at c4
    have hi : i < R := by omega
    obtain ⟨m, m1, m2, m3, m4, -⟩ := hI.row hi
    refine ⟨fun _ => m_laysAll (d := d) hI f0 hi m2 (fun V4 hL => ?_), fun c => absurd c (by decide)⟩
    obtain ⟨q, rfl⟩ : ∃ q : Nat, p = q := ⟨p.toNat, by omega⟩
    refine (m_strandOf (d := d + 2) (V := V4) hL.2.2.1 m4 (by omega) (by omega) (hL.b m4)).use ⟨_, rfl, hL.1, ?_⟩
    rw [if_pos hc, tn, m2, tn, tn]
    exact sfn_congr (fun a b h1 h2 => hL.2.2.2.2 a b h1 h2)
  · rw [if_neg hc]
    exact ⟨fun c => absurd rfl c, fun _ => ⟨_, rfl, f0, by rw [if_neg hc]⟩⟩
end CST
