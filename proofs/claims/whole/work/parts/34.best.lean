/-! ===== best and under: both sides ===== -/
section CBE
variable {K : KK} {d : Nat} {V : Mem} {P : Nat → Int × Int} {n R : Nat}
theorem bsO_0 {T : Nat → Nat → Int} {w f : Nat} : bsO T w 0 (f + 1) 0 = bsO T w 1 f 0 := congrArg (bsO T w 1 f) (if_neg (Int.lt_irrefl _))
theorem x_best (hI : Icore P n R V) (r w : Int) : Mi K (d + 6) mX11_best [vR 0, vI r, vI w] V (fun z V' => FrX V V' ∧ z = if rowC V r ∧ 0 ≤ w ∧ w ≤ V 381 r.toNat then ((bsO (lw (FR P n V r.toNat)) w.toNat 1 ((V 381 r.toNat).toNat - w.toNat) 0 : Nat) : Int) else -1) := by
  obtain ⟨hx, hr0, hR, hC, hlx, hlm, hw⟩ := id hI
  refine sX11_best r w ⟨fun h => ⟨_, rfl, FrX.rf, by rw [if_neg (by omega)]⟩, fun h => ⟨fun h2 => ⟨_, rfl, FrX.rf, by rw [hx] at h2; rw [if_neg (by omega)]⟩, fun h2 => ?_⟩⟩
  obtain ⟨i, rfl⟩ : ∃ i : Nat, r = i := ⟨r.toNat, by omega⟩
  have hi : i < R := by omega
  obtain ⟨m, m1, m2, m3, m4, m5, m6, m7, m8⟩ := hI.row hi
  simp only [tn]
  rw [m1, m2]
  refine ⟨⟨by omega, by omega⟩, fun h3 => ⟨_, rfl, FrX.rf, by rw [if_neg (by omega)]⟩, fun h3 => ⟨fun h4 => ?_, fun h4 => ⟨_, rfl, FrX.rf, by rw [if_neg (by omega)]⟩⟩⟩
  refine c_loadFill (d := d) hI hi m2 (fun V4 hL => ?_)
  obtain ⟨q, rfl⟩ : ∃ q : Nat, w = q := ⟨w.toNat, by omega⟩
  refine (c_bestFrom (d := d + 4) (V := V4) hL.2.1 m4 (by omega)).use ⟨_, rfl, hL.1, ?_⟩
  rw [if_pos ⟨⟨by omega, by omega⟩, by omega, by omega⟩, tn, tn]
  exact congrArg Int.ofNat (bsO_congr (fun a b h1 h2 => hL.2.2 a b h1 h2) _ _ _ (by omega) (by omega))
theorem m_best (hI : Icore P n R V) (r w : Int) : Mi K (d + 5) mX12_best [vR 369, vI r, vI w] V (fun z V' => FrM V V' ∧ z = if rowC V r ∧ 0 ≤ w ∧ w ≤ V 381 r.toNat then ((bsO (lw (FR P n V r.toNat)) w.toNat 1 ((V 381 r.toNat).toNat - w.toNat) 0 : Nat) : Int) else -1) := by
  obtain ⟨hx, hr0, hR, hC, hlx, hlm, hw⟩ := id hI
  have f0 : FrM V (upm V 369 0 0) := FrM.th 0
  refine sX12_best r w ((m_isRow (d := d + 3) r).use ?_)
  rw [f0.c375, f0.c381]
  by_cases hc : 0 ≤ r ∧ r < V 375 0
  · rw [if_pos hc]
    obtain ⟨i, rfl⟩ : ∃ i : Nat, r = i := ⟨r.toNat, by omega⟩
    have hi : i < R := by omega
    obtain ⟨m, m1, m2, m3, m4, -⟩ := hI.row hi
    rw [ix2 (show i < 4 by omega)]
    simp only [tn]
    rw [m2]
    refine ⟨fun c => absurd c (by decide), fun _ => ⟨⟨by omega, by omega⟩, (m_within (d := d + 4) w 0 m).use ?_⟩⟩
    by_cases hL : 0 ≤ w ∧ w ≤ (m : Int)
    · rw [if_pos hL]
      refine ⟨fun _ => m_laysAll (d := d) hI f0 hi m2 (fun V4 hLd => ?_), fun c => absurd c (by decide)⟩
      obtain ⟨g1, g2, g3, g4, g5⟩ := id hLd
      obtain ⟨q, rfl⟩ : ∃ q : Nat, w = q := ⟨w.toNat, by omega⟩
      rw [if_pos ⟨hc, hL⟩, tn, tn, ← bsO_0, show bsO (lw (FR P n V i)) q 0 (m - q + 1) 0 = bsO (fun a b => V4 384 (21 * a + b)) q 0 (m - q + 1) 0 from bsO_congr (fun a b h1 h2 => (g5 a b h1 h2).symm) _ _ _ (by omega) (by omega)]
      have wqA : ∀ j, j ≤ m - q + 1 → ∀ b : Nat, b + q ≤ m → Wf K (d + 5) mX12_best 39 [some (vR 369), none, some (vI (q : Int)), some (vI (b : Int)), some (vI (j : Int))] [] V4 (fun rr V' => ∃ z, rr = some (vI z) ∧ FrM V V' ∧ z = ((bsO (fun a b => V4 384 (21 * a + b)) q j (m - q + 1 - j) b : Nat) : Int)) := by
        refine up_ind ?_ ?_
        · intro b hb
          refine sX12_best_39 _ _ _ ?_
          rw [g3, w32_id (x := ((m - q + 1 : Nat) : Int) + q) (by omega) (by omega)]
          exact ⟨fun _ => ⟨_, rfl, g1, by rw [Nat.sub_self]; rfl⟩, fun c => absurd (by omega) c⟩
        · intro j hj ih b hb
          have hj2 : j ≤ 20 := by omega
          have hq2 : q ≤ 20 := by omega
          have hb2 : b ≤ 20 := by omega
          refine sX12_best_39 _ _ _ ?_
          rw [ixp hj2 hq2, ixp hb2 hq2, ix21 hj2 (show j + q ≤ 20 by omega), ix21 hb2 (show b + q ≤ 20 by omega), tn, tn, g3, w32_s (i := j) (by omega)]
          refine ⟨fun c => absurd c (by omega), fun _ => ⟨⟨by omega, by omega⟩, ⟨by omega, by omega⟩, fun c => ?_, fun c => ?_⟩⟩
          · have hz : bsO (fun a b => V4 384 (21 * a + b)) q j (m - q + 1 - j) b = bsO (fun a b => V4 384 (21 * a + b)) q (j + 1) (m - q + 1 - (j + 1)) b := by
              rw [show m - q + 1 - j = (m - q + 1 - (j + 1)) + 1 by omega]
              exact congrArg (bsO (fun a b => V4 384 (21 * a + b)) q (j + 1) (m - q + 1 - (j + 1))) (if_neg (Int.not_lt.mpr c))
            rw [hz]; exact ih b hb
          · have hz : bsO (fun a b => V4 384 (21 * a + b)) q j (m - q + 1 - j) b = bsO (fun a b => V4 384 (21 * a + b)) q (j + 1) (m - q + 1 - (j + 1)) j := by
              rw [show m - q + 1 - j = (m - q + 1 - (j + 1)) + 1 by omega]
              exact congrArg (bsO (fun a b => V4 384 (21 * a + b)) q (j + 1) (m - q + 1 - (j + 1))) (if_pos (Int.not_le.mp c))
            rw [hz]; exact ih j (by omega)
      have := wqA 0 (by omega) 0 (by omega)
      exact this
    · rw [if_neg hL]
      exact ⟨fun c => absurd rfl c, fun _ => ⟨_, rfl, f0, by rw [if_neg (fun q => hL q.2)]⟩⟩
  · rw [if_neg hc]
    exact ⟨fun _ => ⟨_, rfl, f0, by rw [if_neg (fun q => hc q.1)]⟩, fun c => absurd rfl c⟩
/-- how many strands of lo .. begin there and end before hi -/
noncomputable def und (T : Nat → Nat → Int) (m lo hi k : Nat) : Int := sm (fun p => 0 ≤ sfn T m p ∧ sfn T m p < hi) (fun _ => 1) lo k
theorem und_r {T : Nat → Nat → Int} {m lo hi : Nat} : ∀ k, 0 ≤ und T m lo hi k ∧ und T m lo hi k ≤ k
  | 0 => ⟨Int.le_refl _, Int.le_refl _⟩
  | k + 1 => by
    have ih := und_r (T := T) (m := m) (lo := lo) (hi := hi) k
    unfold und at ih ⊢
    by_cases c : 0 ≤ sfn T m (lo + k) ∧ sfn T m (lo + k) < hi
    · rw [sm_t c]; omega
    · rw [sm_f c]; omega
theorem und_congr {T T2 : Nat → Nat → Int} {m lo hi : Nat} (h : ∀ i j, i ≤ j → j ≤ m → T i j = T2 i j) (k : Nat) : und T m lo hi k = und T2 m lo hi k := by
  unfold und
  exact sm_congr k (fun q _ _ => by rw [sfn_congr h]) (fun _ _ _ _ => rfl)
theorem c_strandsWithin {m lo hi : Nat} (hm : V 156 2 = m) (h20 : m ≤ 20) (hlh : lo ≤ hi) (hh : hi ≤ m) (hb : ∀ i j, i ≤ j → j ≤ m → 0 ≤ V (158 + i) j ∧ V (158 + i) j ≤ 20) : Pu K (d + 3) mX10_strandsWithin [vR 156, vI (lo : Int), vI (hi : Int)] V (und (fun i j => V (158 + i) j) m lo hi (hi - lo)) := by
  refine sX10_strandsWithin lo hi ?_
  have wqA : ∀ p, p ≤ hi → lo ≤ p → Wf K (d + 3) mX10_strandsWithin 5 [some (vR 156), none, some (vI (hi : Int)), some (vI (und (fun i j => V (158 + i) j) m lo hi (p - lo))), some (vI (p : Int)), none] [] V (fun r V' => ∃ z, r = some (vI z) ∧ z = und (fun i j => V (158 + i) j) m lo hi (hi - lo) ∧ V' = V) := by
    refine up_ind ?_ ?_
    · intro _
      exact sX10_strandsWithin_5 _ _ _ ⟨fun _ => ⟨_, rfl, rfl, rfl⟩, fun c => absurd (Int.le_refl _) c⟩
    · intro p hp ih hl
      refine sX10_strandsWithin_5 _ _ _ ⟨fun c => by omega, fun _ => ?_⟩
      refine (c_strandFrom (d := d) hm h20 (by omega) hb).use ?_
      have r1 := sfn_r (T := fun i j => V (158 + i) j) (m := m) (a := p) (by omega)
      have r2 := und_r (T := fun i j => V (158 + i) j) (m := m) (lo := lo) (hi := hi) (p - lo)
      have el : lo + (p - lo) = p := by omega
      have ih := ih (by omega)
      rw [show p + 1 - lo = (p - lo) + 1 by omega] at ih
      rw [w32_s (i := p) (by omega), w32_id (x := und (fun i j => V (158 + i) j) m lo hi (p - lo) + 1) (by omega) (by omega)]
      have s1 : (0 ≤ sfn (fun i j => V (158 + i) j) m p ∧ sfn (fun i j => V (158 + i) j) m p < hi) → und (fun i j => V (158 + i) j) m lo hi (p - lo + 1) = und (fun i j => V (158 + i) j) m lo hi (p - lo) + 1 := fun c => by
        unfold und
        rw [sm_t (by rw [el]; exact c)]
      have s0 : ¬ (0 ≤ sfn (fun i j => V (158 + i) j) m p ∧ sfn (fun i j => V (158 + i) j) m p < hi) → und (fun i j => V (158 + i) j) m lo hi (p - lo + 1) = und (fun i j => V (158 + i) j) m lo hi (p - lo) := fun c => by
        unfold und
        rw [sm_f (by rw [el]; exact c)]
      refine ⟨fun c => ?_, fun c => ⟨fun c2 => ?_, fun c2 => ?_⟩⟩
      · rw [s0 (fun q => by omega)] at ih; exact ih
      · rw [s0 (fun q => by omega)] at ih; exact ih
      · rw [s1 ⟨by omega, by omega⟩] at ih; exact ih
  have := wqA lo hlh (Nat.le_refl _)
  rw [Nat.sub_self] at this
  exact this
theorem x_under (hI : Icore P n R V) (r f t : Int) : Mi K (d + 6) mX11_under [vR 0, vI r, vI f, vI t] V (fun z V' => FrX V V' ∧ z = if winC V r f t then und (lw (FR P n V r.toNat)) (V 381 r.toNat).toNat f.toNat t.toNat (t.toNat - f.toNat) else -1) := by
  obtain ⟨hx, hr0, hR, hC, hlx, hlm, hw⟩ := id hI
  refine sX11_under r f t ⟨fun h => ⟨_, rfl, FrX.rf, by rw [if_neg (by omega)]⟩, fun h => ⟨fun h2 => ⟨_, rfl, FrX.rf, by rw [hx] at h2; rw [if_neg (by omega)]⟩, fun h2 => ?_⟩⟩
  obtain ⟨i, rfl⟩ : ∃ i : Nat, r = i := ⟨r.toNat, by omega⟩
  have hi : i < R := by omega
  obtain ⟨m, m1, m2, m3, m4, m5, m6, m7, m8⟩ := hI.row hi
  simp only [tn]
  rw [m1]
  refine ⟨⟨by omega, by omega⟩, fun h3 => ⟨_, rfl, FrX.rf, by rw [if_neg (by omega)]⟩, fun h3 => ⟨fun h4 => ⟨_, rfl, FrX.rf, by rw [if_neg (by omega)]⟩, fun h4 => ⟨fun h5 => ⟨_, rfl, FrX.rf, ?_⟩, fun h5 => ?_⟩⟩⟩
  · rw [if_neg (fun q => by obtain ⟨-, -, -, -, q5⟩ := q; rw [tn, m2] at q5; omega)]
  · refine c_loadFill (d := d) hI hi m2 (fun V4 hL => ?_)
    obtain ⟨lo, rfl⟩ : ∃ lo : Nat, f = lo := ⟨f.toNat, by omega⟩
    obtain ⟨hi', rfl⟩ : ∃ hi' : Nat, t = hi' := ⟨t.toNat, by omega⟩
    refine (c_strandsWithin (d := d + 2) (V := V4) hL.2.1 m4 (by omega) (by omega) (hL.b m4)).use ⟨_, rfl, hL.1, ?_⟩
    rw [if_pos ⟨by omega, by omega, by omega, by omega, by rw [tn, m2]; omega⟩, m2, tn, tn, tn]
    exact und_congr (fun a b h1 h2 => hL.2.2 a b h1 h2) _
theorem m_under (hI : Icore P n R V) (r f t : Int) : Mi K (d + 5) mX12_under [vR 369, vI r, vI f, vI t] V (fun z V' => FrM V V' ∧ z = if winC V r f t then und (lw (FR P n V r.toNat)) (V 381 r.toNat).toNat f.toNat t.toNat (t.toNat - f.toNat) else -1) := by
  refine sX12_under r f t (m_window (d := d + 2) hI r f t (fun hc V1 hV => ⟨fun c => absurd rfl c, fun _ => ⟨_, rfl, hV, by rw [if_neg hc]⟩⟩) ?_)
  rintro i lo hi m rfl rfl rfl b1 b2 b3 b4 b5 hc V1 hV
  refine ⟨fun _ => m_laysAll (d := d) hI hV b1 b5 (fun V4 hLd => ?_), fun c => absurd c (by decide)⟩
  obtain ⟨g1, g2, g3, g4, g5⟩ := id hLd
  rw [if_pos hc]
  simp only [tn]
  rw [b5, tn, und_congr (T2 := fun a b => V4 384 (21 * a + b)) (fun a b h1 h2 => (g5 a b h1 h2).symm)]
  have wqA : ∀ p, p ≤ hi → lo ≤ p → Wf K (d + 5) mX12_under 28 [some (vR 369), none, none, some (vI (hi : Int)), some (vI (und (fun a b => V4 384 (21 * a + b)) m lo hi (p - lo))), some (vI (p : Int)), none] [] V4 (fun r V' => ∃ z, r = some (vI z) ∧ FrM V V' ∧ z = und (fun a b => V4 384 (21 * a + b)) m lo hi (hi - lo)) := by
    refine up_ind ?_ ?_
    · intro _
      exact sX12_under_28 _ _ _ ⟨fun _ => ⟨_, rfl, g1, rfl⟩, fun c => absurd (Int.le_refl _) c⟩
    · intro p hp ih hl
      refine sX12_under_28 _ _ _ ⟨fun c => by omega, fun _ => ?_⟩
      refine (m_strandOf (d := d + 2) (V := V4) g3 b4 (by omega) (by omega) (hLd.b b4)).use ?_
      have r1 := sfn_r (T := fun a b => V4 384 (21 * a + b)) (m := m) (a := p) (by omega)
      have r2 := und_r (T := fun a b => V4 384 (21 * a + b)) (m := m) (lo := lo) (hi := hi) (p - lo)
      have el : lo + (p - lo) = p := by omega
      have ih := ih (by omega)
      rw [show p + 1 - lo = (p - lo) + 1 by omega] at ih
      rw [w32_s (i := p) (by omega), w32_id (x := und (fun a b => V4 384 (21 * a + b)) m lo hi (p - lo) + 1) (by omega) (by omega), Int.add_zero, w32_id (x := und (fun a b => V4 384 (21 * a + b)) m lo hi (p - lo)) (by omega) (by omega)]
      have s1 : (0 ≤ sfn (fun a b => V4 384 (21 * a + b)) m p ∧ sfn (fun a b => V4 384 (21 * a + b)) m p < hi) → und (fun a b => V4 384 (21 * a + b)) m lo hi (p - lo + 1) = und (fun a b => V4 384 (21 * a + b)) m lo hi (p - lo) + 1 := fun c => by
        unfold und
        rw [sm_t (by rw [el]; exact c)]
      have s0 : ¬ (0 ≤ sfn (fun a b => V4 384 (21 * a + b)) m p ∧ sfn (fun a b => V4 384 (21 * a + b)) m p < hi) → und (fun a b => V4 384 (21 * a + b)) m lo hi (p - lo + 1) = und (fun a b => V4 384 (21 * a + b)) m lo hi (p - lo) := fun c => by
        unfold und
        rw [sm_f (by rw [el]; exact c)]
      refine ⟨fun c => ?_, fun c => ⟨fun c2 => ?_, fun c2 => ?_⟩⟩
      · rw [s0 (fun q => by omega)] at ih; exact ih
      · rw [s0 (fun q => by omega)] at ih; exact ih
      · rw [s1 ⟨by omega, by omega⟩] at ih; exact ih
  have := wqA lo b2 (Nat.le_refl _)
  rw [Nat.sub_self] at this
  exact this
end CBE
