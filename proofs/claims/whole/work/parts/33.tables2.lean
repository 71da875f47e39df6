/-! ===== how, best, near, under: both sides ===== -/
abbrev rowC (V : Mem) (r : Int) : Prop := 0 ≤ r ∧ r < V 375 0
theorem ixp {i j : Nat} (hi : i ≤ 20) (hj : j ≤ 20) : w32 ((i : Int) + j) = ((i + j : Nat) : Int) := by rw [w32_id (by omega) (by omega)]; omega
theorem ix33 {i j : Nat} (hi : i ≤ 20) (hj : j ≤ 20) : w32 ((w32 ((w32 (32 * (i : Int))) + i)) + j) = ((33 * i + j : Nat) : Int) := by
  rw [w32_id (x := 32 * (i : Int)) (by omega) (by omega), w32_id (x := 32 * (i : Int) + i) (by omega) (by omega), w32_id (by omega) (by omega)]; omega
def orE (a b : Int) : Int := if a = -1 then b else a
theorem orE_n {b : Int} : orE (-1) b = b := if_pos rfl
theorem orE_s {a b : Int} (h : a ≠ -1) : orE a b = a := if_neg h
theorem nrO_s {T : Nat → Nat → Int} {L : Int} {m w f : Nat} : nrO T L m w (f + 1) = orE (nrI T L w 0 (m + 1 - w)) (nrO T L m (w + 1) f) := rfl
section CTC
variable {K : KK} {d : Nat} {V : Mem} {P : Nat → Int × Int} {n R : Nat}
theorem x_how (hI : Icore P n R V) (r L : Int) : Mi K (d + 6) mX11_how [vR 0, vI r, vI L] V (fun z V' => FrX V V' ∧ z = if rowC V r ∧ 0 ≤ L ∧ L ≤ 20 then hwO (lw (FR P n V r.toNat)) L (V 381 r.toNat).toNat 0 ((V 381 r.toNat).toNat + 1) 0 else -1) := by
  obtain ⟨hx, hr0, hR, hC, hlx, hlm, hw⟩ := id hI
  refine sX11_how r L ⟨fun h => ⟨_, rfl, FrX.rf, by rw [if_neg (by omega)]⟩, fun h => ⟨fun h2 => ⟨_, rfl, FrX.rf, by rw [hx] at h2; rw [if_neg (by omega)]⟩, fun h2 => ?_⟩⟩
  obtain ⟨i, rfl⟩ : ∃ i : Nat, r = i := ⟨r.toNat, by omega⟩
  have hi : i < R := by omega
  obtain ⟨m, m1, m2, m3, m4, m5, m6, m7, m8⟩ := hI.row hi
  simp only [tn]
  refine ⟨⟨by omega, by omega⟩, fun h3 => ⟨_, rfl, FrX.rf, by rw [if_neg (by omega)]⟩, fun h3 => ⟨fun h4 => ?_, fun h4 => ⟨_, rfl, FrX.rf, by rw [if_neg (by omega)]⟩⟩⟩
  refine c_loadFill (d := d) hI hi m2 (fun V4 hL => ?_)
  refine (c_having (d := d + 4) (V := V4) hL.2.1 m4 L).use ⟨_, rfl, hL.1, ?_⟩
  rw [if_pos ⟨⟨by omega, by omega⟩, by omega, by omega⟩, m2, tn]
  exact hwO_congr (fun a b h1 h2 => hL.2.2 a b h1 h2) _ _ _ (by omega)
theorem m_how (hI : Icore P n R V) (r L : Int) : Mi K (d + 5) mX12_how [vR 369, vI r, vI L] V (fun z V' => FrM V V' ∧ z = if rowC V r ∧ 0 ≤ L ∧ L ≤ 20 then hwO (lw (FR P n V r.toNat)) L (V 381 r.toNat).toNat 0 ((V 381 r.toNat).toNat + 1) 0 else -1) := by
  obtain ⟨hx, hr0, hR, hC, hlx, hlm, hw⟩ := id hI
  have f0 : FrM V (upm V 369 0 0) := FrM.th 0
  refine sX12_how r L ((m_isRow (d := d + 3) r).use ?_)
  rw [f0.c375]
  by_cases hc : 0 ≤ r ∧ r < V 375 0
  · rw [if_pos hc]
    refine ⟨fun c => absurd c (by decide), fun _ => (m_within (d := d + 4) L 0 20).use ?_⟩
    by_cases hL : 0 ≤ L ∧ L ≤ 20
    · rw [if_pos hL]
      obtain ⟨i, rfl⟩ : ∃ i : Nat, r = i := ⟨r.toNat, by omega⟩
      have hi : i < R := by omega
      obtain ⟨m, m1, m2, m3, m4, -⟩ := hI.row hi
      refine ⟨fun _ => m_laysAll (d := d) hI f0 hi m2 (fun V4 hLd => ?_), fun c => absurd c (by decide)⟩
      obtain ⟨g1, g2, g3, g4, g5⟩ := id hLd
      have e0 : (hwO (lw (FR P n V i)) L m 0 (m + 1) 0) = hwO (fun a b => V4 384 (21 * a + b)) L m 0 (m + 1) 0 := (hwO_congr (fun a b h1 h2 => (g5 a b h1 h2).symm) _ _ _ (by omega))
      simp only [tn]
      rw [if_pos ⟨hc, hL⟩, m2, tn, e0]
      clear e0
      have wqA : ∀ j, j ≤ m + 1 → ∀ acc : Int, 0 ≤ acc → acc + 21 * ((m + 1 - j : Nat) : Int) ≤ 2000 → Wf K (d + 5) mX12_how 35 [some (vR 369), none, some (vI L), some (vI acc), some (vI (j : Int)), none] [] V4 (fun rr V' => ∃ z, rr = some (vI z) ∧ FrM V V' ∧ z = hwO (fun a b => V4 384 (21 * a + b)) L m j (m + 1 - j) acc) := by
        refine up_ind ?_ ?_
        · intro acc _ _
          exact sX12_how_35 _ _ _ ⟨fun _ => ⟨_, rfl, g1, by rw [Nat.sub_self]; rfl⟩, fun c => absurd (by rw [g3]; omega) c⟩
        · intro j hj ih acc h0 hA
          refine sX12_how_35 _ _ _ ⟨fun c => absurd c (by rw [g3]; omega), fun _ => ?_⟩
          have wqB : ∀ q, q ≤ m + 1 → j ≤ q → ∀ a2 : Int, 0 ≤ a2 → a2 + ((m + 1 - q : Nat) : Int) + 21 * ((m - j : Nat) : Int) ≤ 2000 → Wf K (d + 5) mX12_how 48 [some (vR 369), none, some (vI L), some (vI a2), some (vI (j : Int)), some (vI (q : Int))] [] V4 (fun rr V' => ∃ z, rr = some (vI z) ∧ FrM V V' ∧ z = hwO (fun a b => V4 384 (21 * a + b)) L m (j + 1) (m - j) (hwI (fun a b => V4 384 (21 * a + b)) L j q (m + 1 - q) a2)) := by
            refine up_ind ?_ ?_
            · intro _ a2 h1 h2
              refine sX12_how_48 _ _ _ _ ⟨fun _ => ?_, fun c => absurd (by rw [g3]; omega) c⟩
              rw [w32_s (by omega), Nat.sub_self]
              have := ih a2 h1 (by omega)
              rw [show m + 1 - (j + 1) = m - j by omega] at this
              exact this
            · intro q hq ih2 hij a2 h1 h2
              refine sX12_how_48 _ _ _ _ ⟨fun c => absurd c (by rw [g3]; omega), fun _ => ?_⟩
              rw [ix21 (by omega) (by omega), tn, w32_s (by omega), w32_id (x := a2 + 1) (by omega) (by omega), Int.add_zero, w32_id (x := a2) (by omega) (by omega), show m + 1 - q = (m + 1 - (q + 1)) + 1 by omega]
              unfold hwI
              refine ⟨⟨by omega, by omega⟩, fun c => ?_, fun c => ?_⟩
              · rw [if_neg c]; exact ih2 (by omega) a2 h1 (by omega)
              · rw [if_pos c]; exact ih2 (by omega) (a2 + 1) (by omega) (by omega)
          have := wqB j (by omega) (Nat.le_refl _) acc h0 (by omega)
          rw [show m + 1 - j = (m - j) + 1 by omega]
          unfold hwO
          rw [show m + 1 - j = (m - j) + 1 by omega] at this ⊢
          exact this
      have := wqA 0 (by omega) 0 (Int.le_refl 0) (by omega)
      exact this
    · rw [if_neg hL]
      exact ⟨fun c => absurd rfl c, fun _ => ⟨_, rfl, f0, by rw [if_neg (fun q => hL q.2)]⟩⟩
  · rw [if_neg hc]
    exact ⟨fun _ => ⟨_, rfl, f0, by rw [if_neg (fun q => hc q.1)]⟩, fun c => absurd rfl c⟩
theorem x_near (hI : Icore P n R V) (r L : Int) : Mi K (d + 6) mX11_near [vR 0, vI r, vI L] V (fun z V' => FrX V V' ∧ z = if rowC V r ∧ 0 ≤ L ∧ L ≤ 20 then nrO (lw (FR P n V r.toNat)) L (V 381 r.toNat).toNat 0 ((V 381 r.toNat).toNat + 1) else -1) := by
  obtain ⟨hx, hr0, hR, hC, hlx, hlm, hw⟩ := id hI
  refine sX11_near r L ⟨fun h => ⟨_, rfl, FrX.rf, by rw [if_neg (by omega)]⟩, fun h => ⟨fun h2 => ⟨_, rfl, FrX.rf, by rw [hx] at h2; rw [if_neg (by omega)]⟩, fun h2 => ?_⟩⟩
  obtain ⟨i, rfl⟩ : ∃ i : Nat, r = i := ⟨r.toNat, by omega⟩
  have hi : i < R := by omega
  obtain ⟨m, m1, m2, m3, m4, m5, m6, m7, m8⟩ := hI.row hi
  simp only [tn]
  refine ⟨⟨by omega, by omega⟩, fun h3 => ⟨_, rfl, FrX.rf, by rw [if_neg (by omega)]⟩, fun h3 => ⟨fun h4 => ?_, fun h4 => ⟨_, rfl, FrX.rf, by rw [if_neg (by omega)]⟩⟩⟩
  refine c_loadFill (d := d) hI hi m2 (fun V4 hL => ?_)
  refine (c_narrowest (d := d + 4) (V := V4) hL.2.1 m4 L).use ⟨_, rfl, hL.1, ?_⟩
  rw [if_pos ⟨⟨by omega, by omega⟩, by omega, by omega⟩, m2, tn]
  exact nrO_congr (fun a b h1 h2 => hL.2.2 a b h1 h2) _ _ (by omega)
theorem m_near (hI : Icore P n R V) (r L : Int) : Mi K (d + 5) mX12_near [vR 369, vI r, vI L] V (fun z V' => FrM V V' ∧ z = if rowC V r ∧ 0 ≤ L ∧ L ≤ 20 then nrO (lw (FR P n V r.toNat)) L (V 381 r.toNat).toNat 0 ((V 381 r.toNat).toNat + 1) else -1) := by
  obtain ⟨hx, hr0, hR, hC, hlx, hlm, hw⟩ := id hI
  have f0 : FrM V (upm V 369 0 0) := FrM.th 0
  refine sX12_near r L ((m_isRow (d := d + 3) r).use ?_)
  rw [f0.c375]
  by_cases hc : 0 ≤ r ∧ r < V 375 0
  · rw [if_pos hc]
    refine ⟨fun c => absurd c (by decide), fun _ => (m_within (d := d + 4) L 0 20).use ?_⟩
    by_cases hL : 0 ≤ L ∧ L ≤ 20
    · rw [if_pos hL]
      obtain ⟨i, rfl⟩ : ∃ i : Nat, r = i := ⟨r.toNat, by omega⟩
      have hi : i < R := by omega
      obtain ⟨m, m1, m2, m3, m4, -⟩ := hI.row hi
      refine ⟨fun _ => m_laysAll (d := d) hI f0 hi m2 (fun V4 hLd => ?_), fun c => absurd c (by decide)⟩
      obtain ⟨g1, g2, g3, g4, g5⟩ := id hLd
      have e0 : nrO (lw (FR P n V i)) L m 0 (m + 1) = nrO (fun a b => V4 384 (21 * a + b)) L m 0 (m + 1) := nrO_congr (fun a b h1 h2 => (g5 a b h1 h2).symm) _ _ (by omega)
      simp only [tn]
      rw [if_pos ⟨hc, hL⟩, m2, tn, e0]
      clear e0
      have wqA : ∀ w, w ≤ m + 1 → Wf K (d + 5) mX12_near 32 [some (vR 369), none, some (vI L), some (vI (w : Int)), none] [] V4 (fun rr V' => ∃ z, rr = some (vI z) ∧ FrM V V' ∧ z = nrO (fun a b => V4 384 (21 * a + b)) L m w (m + 1 - w)) := by
        refine up_ind ?_ ?_
        · exact sX12_near_32 _ _ ⟨fun _ => ⟨_, rfl, g1, by rw [Nat.sub_self]; rfl⟩, fun c => absurd (by rw [g3]; omega) c⟩
        · intro w hw2 ih
          refine sX12_near_32 _ _ ⟨fun c => absurd c (by rw [g3]; omega), fun _ => ?_⟩
          have wqB : ∀ j, j ≤ m + 1 - w → Wf K (d + 5) mX12_near 43 [some (vR 369), none, some (vI L), some (vI (w : Int)), some (vI (j : Int))] [] V4 (fun rr V' => ∃ z, rr = some (vI z) ∧ FrM V V' ∧ z = orE (nrI (fun a b => V4 384 (21 * a + b)) L w j (m + 1 - w - j)) (nrO (fun a b => V4 384 (21 * a + b)) L m (w + 1) (m - w))) := by
            refine up_ind ?_ ?_
            · refine sX12_near_43 _ _ _ ?_
              rw [g3, w32_id (x := ((m + 1 - w : Nat) : Int) + w) (by omega) (by omega), Nat.sub_self, w32_s (by omega)]
              refine ⟨fun _ => ?_, fun c => absurd (by omega) c⟩
              have e : nrI (fun a b => V4 384 (21 * a + b)) L w (m + 1 - w) 0 = -1 := rfl
              rw [e, orE_n]
              rw [show m + 1 - (w + 1) = m - w by omega] at ih
              exact ih
            · intro j hj ih2
              refine sX12_near_43 _ _ _ ?_
              have hj2 : j ≤ 20 := by omega
              have hw3 : w ≤ 20 := by omega
              rw [ixp hj2 hw3, ix33 hj2 hw3, ix21 hj2 (show j + w ≤ 20 by omega), tn, g3, w32_s (i := j) (by omega)]
              refine ⟨fun c => absurd c (by omega), fun _ => ⟨⟨by omega, by omega⟩, fun c => ?_, fun c => ⟨_, rfl, g1, ?_⟩⟩⟩
              · have hz : nrI (fun a b => V4 384 (21 * a + b)) L w j (m + 1 - w - j) = nrI (fun a b => V4 384 (21 * a + b)) L w (j + 1) (m + 1 - w - (j + 1)) := by
                  rw [show m + 1 - w - j = (m + 1 - w - (j + 1)) + 1 by omega]
                  exact if_neg (Int.not_le.mpr c)
                rw [hz]; exact ih2
              · have hz : nrI (fun a b => V4 384 (21 * a + b)) L w j (m + 1 - w - j) = ((33 * j + w : Nat) : Int) := by
                  rw [show m + 1 - w - j = (m + 1 - w - (j + 1)) + 1 by omega]
                  exact if_pos (Int.not_lt.mp c)
                rw [hz, orE_s (by omega)]
          have := wqB 0 (by omega)
          have es : m + 1 - w = (m - w) + 1 := by omega
          have en : nrO (fun a b => V4 384 (21 * a + b)) L m w (m + 1 - w) = orE (nrI (fun a b => V4 384 (21 * a + b)) L w 0 (m + 1 - w - 0)) (nrO (fun a b => V4 384 (21 * a + b)) L m (w + 1) (m - w)) := by
            rw [Nat.sub_zero]
            conv => lhs; rw [es]
            exact nrO_s
          rw [en]
          exact this
      exact wqA 0 (by omega)
    · rw [if_neg hL]
      exact ⟨fun c => absurd rfl c, fun _ => ⟨_, rfl, f0, by rw [if_neg (fun q => hL q.2)]⟩⟩
  · rw [if_neg hc]
    exact ⟨fun _ => ⟨_, rfl, f0, by rw [if_neg (fun q => hc q.1)]⟩, fun c => absurd rfl c⟩
end CTC
