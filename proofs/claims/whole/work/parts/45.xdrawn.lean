section CDR
variable {K : KK} {d : Nat} {V : Mem} {P : Nat → Int × Int} {n R : Nat}
theorem c_draw {s b : Int} {m : Nat} (hs : 0 ≤ s ∧ s ≤ 9999) (hb : 1 ≤ b ∧ b ≤ 100) (hm : m ≤ 20) : Mv K (d + 1) mX11_draw [vR 0, vI s, vI (m : Int), vI b] V (fun V' => (∀ c, c ≠ 246 → c ≠ 247 → V' c = V c) ∧ V' 246 2 = 0 ∧ V' 246 3 = m ∧ ∀ p, p < m → V' 247 p = drw s b p) := by
  refine sX11_draw _ _ _ ?_
  have wqA : ∀ i, i ≤ m → ∀ V' : Mem, (∀ c, c ≠ 246 → c ≠ 247 → V' c = V c) → V' 246 2 = 0 → V' 246 3 = (i : Int) → (∀ p, p < i → V' 247 p = drw s b p) → Wf K (d + 1) mX11_draw 23 [some (vR 0), none, some (vI (m : Int)), some (vI b), some (vJ (gnk s i)), none, some (vI (i : Int))] [] V' (fun r V' => r = none ∧ (∀ c, c ≠ 246 → c ≠ 247 → V' c = V c) ∧ V' 246 2 = 0 ∧ V' 246 3 = m ∧ ∀ p, p < m → V' 247 p = drw s b p) := by
    refine up_ind ?_ ?_
    · intro V' g1 g2 g3 g4
      exact sX11_draw_23 _ _ _ _ ⟨fun _ => ⟨rfl, g1, g2, g3, g4⟩, fun c => absurd (Int.le_refl _) c⟩
    · intro i hi ih V' g1 g2 g3 g4
      refine sX11_draw_23 _ _ _ _ ⟨fun c => by omega, fun _ => ⟨fun _ => ⟨by omega, ?_⟩, fun c => by omega⟩⟩
      have r0 := gnk_r hs i
      have r1 := gnk_r hs (i + 1)
      rw [gx_c r0, show gnx (gnk s i) = gnk s (i + 1) from rfl, dr_c r1 hb, w32_s (i := i) (by omega)]
      refine sX6_add 246 _ is246 ?_
      rw [g3]
      refine ⟨fun c => by omega, fun _ => ⟨fun _ => ⟨⟨by omega, by omega⟩, _, rfl, ?_⟩, fun c => by omega⟩⟩
      rw [tn, upm_a (b := 246) (by omega), g3, w32_s (i := i) (by omega)]
      refine ih _ (fun c q1 q2 => by rw [upm_off c q1, upm_off c q2]; exact g1 c q1 q2) (by rw [upm_k (by omega), upm_a (by omega)]; exact g2) (upm_s _ _ _ _) (fun p hp => ?_)
      rw [upm_a (by omega)]
      by_cases q : p = i
      · rw [q, show (247 : Nat) = 246 + 1 from rfl, upm_s]; rfl
      · rw [upm_k q]; exact g4 p (by omega)
  refine wqA 0 (Nat.zero_le _) _ (fun c q1 _ => by rw [upm_off c q1, upm_off c q1]) (by rw [upm_k (by omega), upm_s]) (upm_s _ _ _ _) (fun p hp => absurd hp (Nat.not_lt_zero p))
theorem x_drawn (hI : Icore P n R V) (s m b w : Int) : Mi K (d + 6) mX11_drawn [vR 0, vI s, vI m, vI b, vI w] V (fun z V' => FrX V V' ∧ z = if drC s m b w then drR P n s m b w else -1) := by
  obtain ⟨hx, hr0, hR, hC, hlx, hlm, hw⟩ := id hI
  have no : ¬ drC s m b w → ∃ z, some (vI (-1)) = some (vI z) ∧ FrX V V ∧ z = if drC s m b w then drR P n s m b w else -1 := fun c => ⟨_, rfl, FrX.rf, by rw [if_neg c]⟩
  refine sX11_drawn s m b w ⟨fun h => no (by omega), fun h1 => ⟨fun h => no (by omega), fun h2 => ⟨fun h => no (by omega), fun h3 => ⟨fun h4 => ⟨fun h => no (by omega), fun h5 => ⟨fun h => no (by omega), fun h6 => ⟨fun h => no (by omega), fun h7 => ⟨fun h8 => ?_, fun h => no (by omega)⟩⟩⟩⟩, fun h => no (by omega)⟩⟩⟩⟩
  have hc : drC s m b w := by omega
  rw [if_pos hc]
  obtain ⟨k, rfl⟩ : ∃ k : Nat, m = k := ⟨m.toNat, by omega⟩
  unfold drR
  rw [tn]
  refine (c_draw (d := d + 4) hc.1 hc.2.2.1 (by omega)).use (fun V1 ⟨g1, g2, g3, g4⟩ => ?_)
  have hl1 : lawX V1 135 P n := ⟨by rw [g1 135 (by omega) (by omega)]; exact hlx.1, hlx.2.1, fun i hi => by rw [g1 (135 + 1) (by omega) (by omega)]; exact hlx.2.2 i hi⟩
  have wt : ∀ V2 : Mem, (∀ p, p < k → V2 (146 + 1) p = wv (fct (V1 (246 + 1) p) p k (V1 246 2)) P n) → ∀ p, p < k → V2 147 p = wD P n s b k p := fun V2 h p hp => by
    rw [show (147 : Nat) = 146 + 1 from rfl, h p hp, show (246 + 1 : Nat) = 247 from rfl, g4 p hp, g2]
    rfl
  refine ⟨fun h9 => ?_, fun h9 => ?_⟩
  · rw [if_neg h9]
    refine (c_load (d := d + 3) is146 is246 is135 hl1 hw g3 (by omega) (by omega) (by omega) (by omega)).use (fun V2 ⟨k1, k2, k3, k4, k5⟩ => ?_)
    have hk : V2 146 6 = 0 := by rw [k4, g2]
    have hF : ∀ p q, 0 ≤ q → q < p → p < k → (Fc V2 146 p q ↔ FD P n s b k p q) := fun p q h1 h2 h3 => by
      unfold Fc FD
      rw [hk, show (146 + 1 : Nat) = 147 from rfl, wt V2 k5 p (by omega), wt V2 k5 q (by omega)]
    refine (c_measure (d := d + 2) (V := V2) (lo := 0) (hi := k) (n := k) is146 (by rw [hk]; exact ⟨by omega, by omega⟩) k3 (Nat.zero_le _) (Nat.le_refl _) (by omega)).use (fun V3 ⟨j1, j2, j3, j4, j5, j6, j7⟩ => ?_)
    have fr : FrX V V3 := fun c hc => by rw [j1 c (by omega) (by omega) (by omega), k1 c (by omega) (by omega) (by omega), g1 c (by omega) (by omega)]
    refine ⟨fun h10 => ?_, fun h10 => ⟨_, rfl, fr, ?_⟩⟩
    · rw [if_neg h10]
      have e6 : V3 146 6 = V2 146 6 := j2 6 (by omega)
      have e7 : V3 (146 + 1) = V2 (146 + 1) := j1 _ (by omega) (by omega) (by omega)
      have hF2 : ∀ p q, 0 ≤ q → q < p → p < k → (Fc V2 146 p q ↔ Fc V3 146 p q) := fun p q _ _ _ => by
        unfold Fc
        rw [e6, e7]
      refine (c_countWays2 (d := d + 2) (V := V3) (lo := 0) (hi := k) is146 (by rw [e6, hk]; exact ⟨by omega, by omega⟩) j3 j4 (Nat.zero_le _) (by omega) (j5.congr hF2) (j6.congr hF2) (by rw [j7]; exact lw_congr hF2)).use (fun z V4 ⟨u1, u2⟩ => ⟨_, rfl, fun c hc => ?_, ?_⟩)
      · rw [u1 c (by omega)]; exact fr c hc
      · rw [u2, nw_congr (Nat.zero_le _) (fun p q a b c => (hF2 p q a b c).symm)]
        exact nw_congr (Nat.zero_le _) hF
    · rw [if_pos h10, j7]
      exact lw_congr hF
  · rw [if_pos h9]
    refine (c_load (d := d + 2) is146 is246 is135 hl1 hw g3 (by omega) (by omega) (by omega) (by omega)).use (fun V2 ⟨k1, k2, k3, k4, k5⟩ => ?_)
    have hk : V2 146 6 = 0 := by rw [k4, g2]
    have hF : ∀ p q, 0 ≤ q → q < p → p < k → (Fc V2 146 p q ↔ FD P n s b k p q) := fun p q h1 h2 h3 => by
      unfold Fc FD
      rw [hk, show (146 + 1 : Nat) = 147 from rfl, wt V2 k5 p (by omega), wt V2 k5 q (by omega)]
    refine (c_fillChains (d := d) (V := V2) (n := k) is146 (by omega) (by rw [hk]; exact ⟨by omega, by omega⟩) k3 (by omega)).use (fun V3 ⟨j1, j2, j3, j4⟩ => ?_)
    have hT : ∀ i j, i ≤ j → j ≤ k → V3 (158 + i) j = lw (FD P n s b k) i j := fun i j h1 h2 => by
      rw [j4 i j h1 h2]
      exact lw_congr (fun p q a1 a2 a3 => hF p q (Nat.zero_le _) a2 (by omega))
    refine (c_strandsWithin (d := d + 2) (V := V3) (m := k) (lo := 0) (hi := k) j3 (by omega) (Nat.zero_le _) (Nat.le_refl _) (fun i j h1 h2 => ?_)).use ⟨_, rfl, fun c hc => ?_, ?_⟩
    · rw [hT i j h1 h2]
      have := lw_r (F := FD P n s b k) (lo := i) (hi := j) h1
      omega
    · rw [j1 c (by omega) (by omega) (by omega), k1 c (by omega) (by omega) (by omega), g1 c (by omega) (by omega)]
    · exact und_congr hT _
end CDR
