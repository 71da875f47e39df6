/-! ===== cut, turn, cross: both sides with the coupling ===== -/
theorem DnC.th {V V6 : Mem} {N sh : Nat} (h : DnC (upm V 369 0 0) V6 N sh) : DnC V V6 N sh := by
  have f3 : FrM V (upm V 369 0 0) := FrM.th 0
  obtain ⟨b1, b2, b3, b4, b5, b6⟩ := h
  exact ⟨b1, by rw [b2, upm_k (by decide)], fun c q1 q2 q3 => by rw [b3 c q1 q2 q3, upm_off c q2], fun j q => by rw [b4 j q, f3.c381], fun k i q1 q2 => by rw [b5 k i q1 q2, f3.c381], fun i q => by rw [b6 i q, f3.c381]⟩
section HN2
variable {K : KK} {d : Nat} {V : Mem}
theorem st_cut (hI : Inv V) (r : Int) : Bth K (d + 3) mX11_cut [vR 0, vI r] mX12_cut [vR 369, vI r] V := by
  obtain ⟨P, n, R, B, S, BT, hT, hK, hTo, hLw, hL, hM, hH, hLn, hmd⟩ := id hI
  obtain ⟨U, u1, u2, u3, u4, u5⟩ := id hH
  have hr0 := hTo.1.2.1
  have hR := hTo.1.2.2.1
  refine sX11_cut r ((c_shrink (d := d + 1) is43 hL.1 r).use (fun z V1 hz => ?_))
  rcases hz with ⟨c1, rfl, cz, k1, k2⟩ | ⟨c1, rfl, rfl⟩
  · obtain ⟨i, rfl⟩ : ∃ i : Nat, r = i := ⟨r.toNat, by omega⟩
    have hi : i < R := by omega
    obtain ⟨m, a1, a2, a3, a4, a5, a6⟩ := hL.1.2.2 i hi
    rw [tn] at k1 k2 cz ⊢
    have c3 : 1 < V 381 i := by have := c1.2; rw [tn] at this; exact this
    rw [a2, tn] at cz ⊢
    refine ⟨fun c => by omega, fun _ => ?_⟩
    refine (c_add (d := d + 1) (V := V1) (U := U) is142 (by decide) (by rw [k1 142 (by omega)]; exact u2) u1 _ _ _).use (fun V3 ⟨j1, j2⟩ => ⟨_, rfl, ?_⟩)
    have e3 : ∀ c, c ≠ 43 + 6 + 2 * i → (c < 142 ∨ 146 ≤ c) → V3 c = V c := fun c q1 q3 => by rw [j1 c (by omega), k1 c q1]
    have f3 : FrM V3 (upm V3 369 0 0) := FrM.th 0
    have e375 : V3 375 = V 375 := e3 375 (by omega) (by omega)
    have e381 : V3 381 = V 381 := e3 381 (by omega) (by omega)
    refine sX12_cut _ ((m_isRow (d := d + 1) _).use ?_)
    rw [f3.c375, e375, hr0, if_pos ⟨by omega, by omega⟩]
    refine ⟨fun c => absurd c (by decide), fun _ => ?_⟩
    have hb : bk (upm V3 369 0 0) 0 i = m := by rw [bk0, f3.c381, e381]; exact a2
    refine m_done (d := d + 1) (U := U) (L := fun g g' => Lcut i g g' ∧ ∀ j, j < 181 → j ≠ i → g' j = g j) (by rw [upm_k (by decide), e3 369 (by omega) (by omega)]; exact u3) u1 ((m_may1 (d := d) (b := 0) rfl (by omega) (by omega)).use ⟨by rw [hb, if_pos (by omega)], rfl⟩) ⟨d, rfl⟩ (fun V5 hV5 => ?_) (fun V6 h6 h19 hl => ⟨fun c => absurd c (by decide), fun _ => ?_⟩)
    · refine Mv.use (m_do1 (d := d) (V := V5) (b := 0) (w := i) (m := m) rfl (by omega) (by omega) (by rw [bk0, hV5 i (by omega), f3.c381, e381]; exact a2) (by omega) (by omega)) (fun V6 ⟨q1, q2, q3⟩ => ⟨q1, ?_, fun j hj hn => ?_⟩)
      · rw [bk0, bk0] at q2
        exact q2.congr (by omega) (fun j hj => (hV5 j (by omega)).symm) (fun _ _ => rfl)
      · have := q3 j hn
        rw [bk0, bk0] at this
        rw [this, hV5 j (by omega)]
    · rw [f3.c381, e381] at hl
      obtain ⟨hl, hl2⟩ := hl
      have hw : V6 381 i = ((m - 1 : Nat) : Int) := by rw [hl.1, a2]; omega
      have h6' := h6.th
      obtain ⟨b1, b2, b3, b4, b5, b6⟩ := id h6'
      have e6 : ∀ c, ¬ MSc c → c ≠ 369 → c ≠ 381 → c < 142 → V6 c = V1 c := fun c q1 q2 q3 q4 => by rw [b3 c q1 q2 q3, j1 c (by omega)]
      have hgg : ∀ j, 84 ≤ j → j < 206 → V6 381 j = V 381 j := fun j q1 q2 => by
        by_cases c : j < 181
        · exact hl2 j c (by omega)
        · rw [b4 j (by omega), e381]
      rw [ix2 (show i < 4 by omega), tn, hw, ix3 (show i < 4 by omega) (show m - 1 ≤ 20 by omega), tn, hl2 _ (by omega) (by omega)]
      refine ⟨⟨by omega, by omega⟩, ⟨by omega, by omega⟩, _, rfl, rfl, inv_deed (B' := B) (S := S) hT hK hTo hLw hM hH hLn (fun c q1 q2 q3 q4 => e3 c (by omega) (by omega)) u2 (dd_of j2 (k1 _ (by omega)) (k1 _ (by omega)) (k1 _ (by omega))) h6' (Or.inr (Or.inl ⟨rfl, i, rfl, hi, cz, by rw [hw]; omega, ?_, ?_, ?_⟩)) (live_rw hL ?_ (by rw [b3 375 (by omega) (by omega) (by omega), e375]) (fun c hc => by rw [e6 c (by omega) (by omega) (by omega) (by omega), k1 c (by omega)]) hgg) ?_⟩
      · rw [hw, a2]; omega
      · rw [hw, tn]
      · intro j q1 q2 q3
        exact (hl2 j q1 q2).symm
      · exact (k2 (V6 381) hl).congr (by rw [e6 43 (by omega) (by omega) (by omega) (by omega)]) (fun r hr => ⟨e6 _ (by omega) (by omega) (by omega) (by omega), e6 _ (by omega) (by omega) (by omega) (by omega)⟩) (fun _ _ => rfl)
      · rw [b3 0 (by omega) (by omega) (by omega), h19, upm_k (by decide), e3 0 (by omega) (by omega), e3 369 (by omega) (by omega)]; exact hmd
  · refine ⟨fun _ => ⟨_, rfl, ?_⟩, fun c => absurd rfl c⟩
    have f0 : FrM V1 (upm V1 369 0 0) := FrM.th 0
    refine sX12_cut _ ((m_isRow (d := d + 1) _).use ?_)
    rw [f0.c375]
    by_cases q : 0 ≤ r ∧ r < V1 375 0
    · rw [if_pos q]
      refine ⟨fun c => absurd c (by decide), fun _ => ?_⟩
      obtain ⟨i, rfl⟩ : ∃ i : Nat, r = i := ⟨r.toNat, by omega⟩
      refine sX12_isDone _ _ _ ((m_may1 (d := d) (b := 0) rfl (by omega) (by omega)).use ?_)
      rw [bk0, f0.c381, if_neg (fun w => c1 ⟨⟨by omega, by omega⟩, by rw [tn]; exact w⟩)]
      exact ⟨fun c => absurd rfl c, fun _ => ⟨_, rfl, fun _ => ⟨_, rfl, rfl, inv_th hI⟩, fun c => absurd rfl c⟩⟩
    · rw [if_neg q]
      exact ⟨fun _ => ⟨_, rfl, rfl, inv_th hI⟩, fun c => absurd rfl c⟩
theorem st_turn (hI : Inv V) (r : Int) : Bth K (d + 3) mX11_turn [vR 0, vI r] mX12_turn [vR 369, vI r] V := by
  obtain ⟨P, n, R, B, S, BT, hT, hK, hTo, hLw, hL, hM, hH, hLn, hmd⟩ := id hI
  obtain ⟨U, u1, u2, u3, u4, u5⟩ := id hH
  have hr0 := hTo.1.2.1
  have hR := hTo.1.2.2.1
  refine sX11_turn r ((c_reverse (d := d + 1) is43 hL.1 r).use (fun z V1 hz => ?_))
  rcases hz with ⟨c1, rfl, k1, k2⟩ | ⟨c1, rfl, rfl⟩
  · obtain ⟨i, rfl⟩ : ∃ i : Nat, r = i := ⟨r.toNat, by omega⟩
    have hi : i < R := by omega
    obtain ⟨m, a1, a2, a3, a4, a5, a6⟩ := hL.1.2.2 i hi
    rw [tn] at k1 k2
    refine ⟨fun c => absurd c (by decide), fun _ => ?_⟩
    refine (c_add (d := d + 1) (V := V1) (U := U) is142 (by decide) (by rw [k1 142 (by omega)]; exact u2) u1 _ _ _).use (fun V3 ⟨j1, j2⟩ => ⟨Or.inr rfl, _, rfl, ?_⟩)
    have e3 : ∀ c, c ≠ 43 + 7 + 2 * i → (c < 142 ∨ 146 ≤ c) → V3 c = V c := fun c q1 q3 => by rw [j1 c (by omega), k1 c q1]
    have f3 : FrM V3 (upm V3 369 0 0) := FrM.th 0
    have e375 : V3 375 = V 375 := e3 375 (by omega) (by omega)
    have e381 : V3 381 = V 381 := e3 381 (by omega) (by omega)
    refine sX12_turn _ ((m_isRow (d := d + 1) _).use ?_)
    rw [f3.c375, e375, hr0, if_pos ⟨by omega, by omega⟩]
    refine ⟨fun c => absurd c (by decide), fun _ => ?_⟩
    refine m_done (d := d + 1) (U := U) (L := fun g g' => Ltrn i g g') (by rw [upm_k (by decide), e3 369 (by omega) (by omega)]; exact u3) u1 ((m_may2 (d := d) (b := 0) rfl).use ⟨rfl, rfl⟩) ⟨d, rfl⟩ (fun V5 hV5 => ?_) (fun V6 h6 h19 hl => ⟨fun c => absurd c (by decide), fun _ => ?_⟩)
    · refine Mv.use (m_do2 (d := d) (V := V5) (b := 0) (w := i) (m := m) rfl (by omega) (by omega) (by rw [bk0, hV5 i (by omega), f3.c381, e381]; exact a2) (by omega)) (fun V6 ⟨q1, q2⟩ => ⟨q1, ?_⟩)
      rw [bk0, bk0] at q2
      exact q2.congr (by omega) (by rw [hV5 i (by omega), f3.c381, e381, a2]; omega) (fun j hj => (hV5 j (by omega)).symm) (fun _ _ => rfl)
    · rw [f3.c381, e381] at hl
      have h6' := h6.th
      obtain ⟨b1, b2, b3, b4, b5, b6⟩ := id h6'
      have e6 : ∀ c, ¬ MSc c → c ≠ 369 → c ≠ 381 → c < 142 → V6 c = V1 c := fun c q1 q2 q3 q4 => by rw [b3 c q1 q2 q3, j1 c (by omega)]
      have hgg : ∀ j, 84 ≤ j → j < 206 → V6 381 j = V 381 j := fun j q1 q2 => by
        by_cases c : j < 181
        · refine hl.2.2 j c ?_
          rw [a2, tn]; omega
        · rw [b4 j (by omega), e381]
      refine ⟨_, rfl, rfl, inv_deed (B' := B) (S := S) hT hK hTo hLw hM hH hLn (fun c q1 q2 q3 q4 => e3 c (by omega) (by omega)) u2 (dd_of j2 (k1 _ (by omega)) (k1 _ (by omega)) (k1 _ (by omega))) h6' (Or.inr (Or.inr (Or.inl ⟨rfl, i, rfl, hi, hl.symm⟩))) (live_rw hL ?_ (by rw [b3 375 (by omega) (by omega) (by omega), e375]) (fun c hc => by rw [e6 c (by omega) (by omega) (by omega) (by omega), k1 c (by omega)]) hgg) ?_⟩
      · exact (k2 (V6 381) hl).congr (by rw [e6 43 (by omega) (by omega) (by omega) (by omega)]) (fun r hr => ⟨e6 _ (by omega) (by omega) (by omega) (by omega), e6 _ (by omega) (by omega) (by omega) (by omega)⟩) (fun _ _ => rfl)
      · rw [b3 0 (by omega) (by omega) (by omega), h19, upm_k (by decide), e3 0 (by omega) (by omega), e3 369 (by omega) (by omega)]; exact hmd
  · refine ⟨fun _ => ⟨Or.inl rfl, _, rfl, ?_⟩, fun c => absurd rfl c⟩
    have f0 : FrM V1 (upm V1 369 0 0) := FrM.th 0
    refine sX12_turn _ ((m_isRow (d := d + 1) _).use ?_)
    rw [f0.c375, if_neg (fun q => c1 ⟨q.1, by omega⟩)]
    exact ⟨fun _ => ⟨_, rfl, rfl, inv_th hI⟩, fun c => absurd rfl c⟩
/-- braids alone have changed -/
theorem live_br {V V6 : Mem} {R B B' S : Nat} (h : Live V R B S) (h1 : CpB0 V6 43 (V6 381) B') (h2 : CpMd V6 43 (V6 381) B') (hk : V6 375 = V 375) (hc : ∀ c, (46 ≤ c ∧ c ≤ 56) → V6 c = V c) (h5 : V6 43 5 = V 43 5) (h7 : V6 43 7 = V 43 7) (hg : ∀ i, i < 84 ∨ (181 ≤ i ∧ i < 206) → V6 381 i = V 381 i) : Live V6 R B' S := by
  obtain ⟨a1, a2, a3, a4⟩ := h
  have hR := a1.2.1
  have e : kdV V6 = kdV V := by funext r; show V6 375 _ = V 375 _; rw [hk]
  unfold Live
  rw [e]
  exact ⟨a1.congr h5 (fun r hr => ⟨hc _ (by omega), hc _ (by omega)⟩) (fun i hi => hg i (by omega)), h1, h2, a4.congr h7 (hc _ (by omega)) (hc _ (by omega)) (hc _ (by omega)) (fun i q1 q2 => hg i (by omega))⟩
theorem st_cross (hI : Inv V) (w x : Int) : Bth K (d + 4) mX11_cross [vR 0, vI w, vI x] mX12_cross [vR 369, vI w, vI x] V := by
  obtain ⟨P, n, R, B, S, BT, hT, hK, hTo, hLw, hL, hM, hH, hLn, hmd⟩ := id hI
  obtain ⟨U, u1, u2, u3, u4, u5⟩ := id hH
  have hB := hL.2.1.2.2.1
  have hB0 := hL.2.1.2.1
  refine sX11_cross w x ((c_crossOver (d := d) is43 hL.2.1 w x).use (fun z V1 hz => ?_))
  rcases hz with ⟨c1, rfl, k1, k2⟩ | ⟨c1, rfl, rfl⟩
  · obtain ⟨i, rfl⟩ : ∃ i : Nat, w = i := ⟨w.toNat, by have := c1.1; omega⟩
    have hi : i < B := by have := c1.1; omega
    obtain ⟨m, a1, a2, a3, a4, a5, a6⟩ := hL.2.1.2.2.2 i hi
    rw [tn] at k1 k2
    have c3 : crC (fun s => V 381 (101 + 10 * i + s)) m x := by have := c1.2.2; rw [tn, a2, tn] at this; exact this
    have hx0 := c1.2.1
    have c31 := c3.1
    refine ⟨fun c => absurd c (by decide), fun _ => ?_⟩
    refine (c_add (d := d + 2) (V := V1) (U := U) is142 (by decide) (by rw [k1 142 (by omega)]; exact u2) u1 _ _ _).use (fun V3 ⟨j1, j2⟩ => ⟨Or.inr rfl, _, rfl, ?_⟩)
    have e3 : ∀ c, c ≠ 43 + 15 + 2 * i → (c < 142 ∨ 146 ≤ c) → V3 c = V c := fun c q1 q3 => by rw [j1 c (by omega), k1 c q1]
    have f3 : FrM V3 (upm V3 369 0 0) := FrM.th 0
    have e375 : V3 375 = V 375 := e3 375 (by omega) (by omega)
    have e381 : V3 381 = V 381 := e3 381 (by omega) (by omega)
    obtain ⟨v, rfl⟩ : ∃ v : Nat, x = v := ⟨x.toNat, by omega⟩
    refine sX12_cross _ _ ((m_isBraid (d := d + 3) _).use ?_)
    rw [f3.c381, e381, hB0, if_pos ⟨by omega, by omega⟩]
    refine ⟨fun c => absurd c (by decide), fun _ => ⟨fun c => by omega, fun _ => ?_⟩⟩
    have hb : bk (upm V3 369 0 0) 0 (85 + i) = m := by rw [bk0, f3.c381, e381]; exact a2
    have hp : PermOK (fun s => bk (upm V3 369 0 0) 0 (101 + 10 * i + s)) m := by rw [bk0, f3.c381, e381]; exact a6
    refine m_done (d := d + 2) (U := U) (L := fun g g' => Lcrs i v g g') (by rw [upm_k (by decide), e3 369 (by omega) (by omega)]; exact u3) u1 (Mi.use (m_may3 (d := d + 1) (b := 0) (n := m) rfl (by omega) (by omega) hb a3 a4 hp (by omega)) (fun z V2 ⟨q1, q2⟩ => ⟨?_, q1⟩)) ⟨d + 1, rfl⟩ (fun V5 hV5 => ?_) (fun V6 h6 h19 hl => ⟨fun c => absurd c (by decide), fun _ => ?_⟩)
    · rcases q2 with ⟨q3, q4⟩ | ⟨q3, q4⟩
      · exact q4
      · rw [bk0, f3.c381, e381] at q3
        exact absurd c3 q3
    · have e5 : ∀ i, i < 206 → V5 381 i = V 381 i := fun i hi => by rw [hV5 i hi, f3.c381, e381]
      refine Mv.use (m_do3 (d := d + 1) (V := V5) (b := 0) (k := i) (n := m) (x := v) rfl (by omega) (by omega) (by rw [bk0, e5 _ (by omega)]; exact a2) a4 (by rw [bk0]; exact a6.congr (fun s hs => e5 _ (by omega))) (by omega)) (fun V6 ⟨q1, q2⟩ => ⟨q1, ?_⟩)
      rw [bk0, bk0] at q2
      exact q2.congr (by omega) (by rw [e5 _ (by omega), a2]; omega) (fun j hj => (hV5 j (by omega)).symm) (fun _ _ => rfl)
    · rw [f3.c381, e381] at hl
      have h6' := h6.th
      obtain ⟨b1, b2, b3, b4, b5, b6⟩ := id h6'
      have e6 : ∀ c, ¬ MSc c → c ≠ 369 → c ≠ 381 → c < 142 → V6 c = V1 c := fun c q1 q2 q3 q4 => by rw [b3 c q1 q2 q3, j1 c (by omega)]
      have hl2 := hl.2
      rw [a2, tn] at hl2
      have e85 : V6 381 (85 + i) = m := by rw [hl2 _ (by omega) (by omega)]; exact a2
      refine ⟨_, rfl, rfl, inv_deed (B' := B) (S := S) hT hK hTo hLw hM hH hLn (fun c q1 q2 q3 q4 => e3 c (by omega) (by omega)) u2 (dd_of j2 (k1 _ (by omega)) (k1 _ (by omega)) (k1 _ (by omega))) h6' (Or.inr (Or.inr (Or.inr (Or.inl ⟨rfl, i, rfl, by omega, by rw [hl2 84 (by omega) (by omega), hB0]; omega, by omega, by rw [e85, tn]; omega, by rw [e85, tn]; omega, hl.symm (by omega)⟩)))) (live_br hL ?_ ?_ (by rw [b3 375 (by omega) (by omega) (by omega), e375]) (fun c hc => by rw [e6 c (by omega) (by omega) (by omega) (by omega), k1 c (by omega)]) (by rw [e6 43 (by omega) (by omega) (by omega) (by omega), k1 43 (by omega)]) (by rw [e6 43 (by omega) (by omega) (by omega) (by omega), k1 43 (by omega)]) (fun j q => ?_)) ?_⟩
      · exact (k2 (V6 381) hl).congr (by rw [e6 43 (by omega) (by omega) (by omega) (by omega)]) (fun r hr => ⟨by rw [e6 _ (by omega) (by omega) (by omega) (by omega)], e6 _ (by omega) (by omega) (by omega) (by omega)⟩) (fun _ _ _ => rfl)
      · exact hL.2.2.1.congr hB (fun k hk => by rw [e6 _ (by omega) (by omega) (by omega) (by omega), k1 _ (by omega)]) (fun j q1 q2 => hl2 j (by omega) (by omega))
      · by_cases c : j < 181
        · exact hl2 j c (by omega)
        · rw [b4 j (by omega), e381]
      · rw [b3 0 (by omega) (by omega) (by omega), h19, upm_k (by decide), e3 0 (by omega) (by omega), e3 369 (by omega) (by omega)]; exact hmd
  · refine ⟨fun _ => ⟨Or.inl rfl, _, rfl, ?_⟩, fun c => absurd rfl c⟩
    have f0 : FrM V1 (upm V1 369 0 0) := FrM.th 0
    refine sX12_cross _ _ ((m_isBraid (d := d + 3) _).use ?_)
    rw [f0.c381, hB0]
    by_cases q : 0 ≤ w ∧ w < (B : Int)
    · rw [if_pos q]
      refine ⟨fun c => absurd c (by decide), fun _ => ⟨fun c => ⟨_, rfl, rfl, inv_th hI⟩, fun c => ?_⟩⟩
      obtain ⟨i, rfl⟩ : ∃ i : Nat, w = i := ⟨w.toNat, by omega⟩
      obtain ⟨m, a1, a2, a3, a4, a5, a6⟩ := hL.2.1.2.2.2 i (by omega)
      have hb : bk (upm V1 369 0 0) 0 (85 + i) = m := by rw [bk0, f0.c381]; exact a2
      have hp : PermOK (fun s => bk (upm V1 369 0 0) 0 (101 + 10 * i + s)) m := by rw [bk0, f0.c381]; exact a6
      refine sX12_isDone _ _ _ (Mi.use (m_may3 (d := d + 1) (b := 0) (n := m) rfl (by omega) (by omega) hb a3 a4 hp (by omega)) (fun z V2 ⟨q1, q2⟩ => ?_))
      subst q1
      rcases q2 with ⟨q3, q4⟩ | ⟨q3, q4⟩
      · rw [bk0, f0.c381] at q3
        exact absurd ⟨q, by omega, by rw [tn, a2, tn]; exact q3⟩ c1
      · subst q4
        exact ⟨fun c => absurd rfl c, fun _ => ⟨_, rfl, fun _ => ⟨_, rfl, rfl, inv_th hI⟩, fun c => absurd rfl c⟩⟩
    · rw [if_neg q]
      exact ⟨fun _ => ⟨_, rfl, rfl, inv_th hI⟩, fun c => absurd rfl c⟩
end HN2
