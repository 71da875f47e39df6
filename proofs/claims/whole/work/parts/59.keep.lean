/-! ===== keep, undo: both sides with the coupling ===== -/
theorem Lkep.congr {x y : Nat} {g g' k k' : Nat → Int} (h : Lkep x y g g') (hx : x < 8) (hy : y < 8) (h0 : 0 ≤ g 84 ∧ g 84 < 8) (hn : (g (85 + x)).toNat ≤ 10) (h1 : ∀ i, i < 181 → k i = g i) (h2 : ∀ i, i < 181 → i ≠ 93 + (g 84).toNat → k' i = g' i) : Lkep x y k k' := by
  obtain ⟨a1, a2, a3, a4⟩ := h
  unfold Lkep
  rw [h1 84 (by omega), h2 84 (by omega) (by omega), h1 (85 + x) (by omega), h2 (85 + (g 84).toNat) (by omega) (by omega)]
  refine ⟨a1, a2, fun s hs => ?_, fun i q1 q2 q3 q4 q5 => by rw [h1 i q1, h2 i q1 q4]; exact a4 i q1 q2 q3 q4 q5⟩
  rw [h2 _ (by omega) (by omega), a3 s hs]
  exact (cmp_congr (fun s hs => h1 _ (by omega)) (fun s hs => h1 _ (by omega)) hs).symm
theorem ix93k {B : Nat} (h : B < 8) : w32 (w32 (93 + ((B + 1 : Nat) : Int)) - 1) = ((93 + B : Nat) : Int) := by rw [w32_id (x := 93 + ((B + 1 : Nat) : Int)) (by omega) (by omega), w32_id (by omega) (by omega)]; omega
section HN3
variable {K : KK} {d : Nat} {V : Mem}
theorem st_keep (hI : Inv V) (x y : Int) : Bth K (d + 5) mX11_keep [vR 0, vI x, vI y] mX12_keep [vR 369, vI x, vI y] V := by
  obtain ⟨P, n, R, B, S, BT, hT, hK, hTo, hLw, hL, hM, hH, hLn, hmd⟩ := id hI
  obtain ⟨U, u1, u2, u3, u4, u5⟩ := id hH
  have hB := hL.2.1.2.2.1
  have hB0 := hL.2.1.2.1
  refine sX11_keep x y ((c_combine (d := d + 1) is43 (by omega) hL.2.1 x y).use (fun z V1 hz => ?_))
  rcases hz with ⟨c1, rfl, k1, k2, k3, k4⟩ | ⟨c1, rfl, rfl⟩
  · obtain ⟨⟨cx, cy⟩, ce, c8⟩ := id c1
    obtain ⟨i, rfl⟩ : ∃ i : Nat, x = i := ⟨x.toNat, by omega⟩
    obtain ⟨j, rfl⟩ : ∃ j : Nat, y = j := ⟨y.toNat, by omega⟩
    obtain ⟨m, a1, a2, a3, a4, a5, a6⟩ := hL.2.1.2.2.2 i (by omega)
    obtain ⟨m', g1, g2, g3, g4, g5, g6⟩ := hL.2.1.2.2.2 j (by omega)
    rw [tn, tn] at ce k4
    have em : m' = m := by omega
    subst em
    obtain ⟨w, hw⟩ : ∃ w : Nat → Int, Lkep i j (V 381) w := by
      refine ⟨fun q => if q = 84 then V 381 84 + 1 else if q = 85 + B then V 381 (85 + i) else if 101 + 10 * B ≤ q ∧ q < 111 + 10 * B then cmp m' (fun s => V 381 (101 + 10 * i + s)) (fun s => V 381 (101 + 10 * j + s)) (q - (101 + 10 * B)) else V 381 q, rfl, ?_, fun s hs => ?_, fun q q1 q2 q3 q4 q5 => ?_⟩
      · show (if _ then _ else _) = _
        rw [hB0, tn, if_neg (by omega), if_pos rfl]
      · rw [a2, tn] at hs
        show (if _ then _ else _) = _
        rw [hB0, tn, if_neg (by omega), if_neg (by omega), if_pos (by omega), a2, tn, show 101 + 10 * B + s - (101 + 10 * B) = s by omega]
      · rw [hB0, tn] at q3 q4 q5
        show (if _ then _ else _) = _
        rw [if_neg q2, if_neg q3, if_neg (by omega)]
    have h436 : V1 43 6 = ((B + 1 : Nat) : Int) := (k4 w hw).1
    have e1 : ∀ c, c ≠ 43 → c ≠ 57 + 2 * B → c ≠ 58 + 2 * B → c < 210 ∨ 245 ≤ c → V1 c = V c := fun c q1 q2 q3 q4 => k1 c q1 (by omega) (by omega) q4
    refine ⟨fun c => by omega, fun _ => ⟨fun c => by omega, fun _ => ⟨⟨by omega, by omega⟩, ?_⟩⟩⟩
    rw [tn, upm_a (b := 0) (by omega), e1 0 (by omega) (by omega) (by omega) (by omega)]
    obtain ⟨M1, hM1⟩ : ∃ M1, ∀ _ : Unit, w32 (V 0 17 + 1) = M1 := ⟨_, fun _ => rfl⟩
    rw [hM1 ()]
    generalize hV2 : upm (upm V1 (57 + 2 * B) 3 (V 0 17)) 0 17 M1 = V2
    have e2 : ∀ c, c ≠ 0 → c ≠ 57 + 2 * B → V2 c = V1 c := fun c q1 q2 => by rw [← hV2, upm_off c q1, upm_off c q2]
    have e23 : V2 (57 + 2 * B) 3 = V 0 17 := by rw [← hV2, upm_a (by omega), upm_s]
    have e2k : ∀ q, q ≠ 3 → V2 (57 + 2 * B) q = V1 (57 + 2 * B) q := fun q hq => by rw [← hV2, upm_a (by omega), upm_k hq]
    have e20 : V2 0 17 = M1 := by rw [← hV2, upm_s]
    refine (c_add (d := d + 3) (V := V2) (U := U) is142 (by decide) (by rw [e2 142 (by omega) (by omega), e1 142 (by omega) (by omega) (by omega) (by omega)]; exact u2) u1 _ _ _).use (fun V3 ⟨j1, j2⟩ => ⟨_, rfl, ?_⟩)
    have e3 : ∀ c, c ≠ 0 → c ≠ 43 → c ≠ 57 + 2 * B → c ≠ 58 + 2 * B → c < 210 ∨ 245 ≤ c → (c < 142 ∨ 146 ≤ c) → V3 c = V c := fun c q1 q2 q3 q4 q5 q6 => by rw [j1 c (by omega), e2 c q1 q3, e1 c q2 q3 q4 q5]
    have f3 : FrM V3 (upm V3 369 0 0) := FrM.th 0
    have e375 : V3 375 = V 375 := e3 375 (by omega) (by omega) (by omega) (by omega) (by omega) (by omega)
    have e381 : V3 381 = V 381 := e3 381 (by omega) (by omega) (by omega) (by omega) (by omega) (by omega)
    have e369 : V3 369 = V 369 := e3 369 (by omega) (by omega) (by omega) (by omega) (by omega) (by omega)
    refine sX12_keep _ _ ((m_isBraid (d := d + 4) _).use ?_)
    rw [f3.c381, e381, hB0, if_pos ⟨by omega, by omega⟩]
    refine ⟨fun c => absurd c (by decide), fun _ => (m_isBraid (d := d + 4) _).use ?_⟩
    rw [f3.c381, e381, hB0, if_pos ⟨by omega, by omega⟩]
    refine ⟨fun c => absurd c (by decide), fun _ => ?_⟩
    have hbk : bk (upm V3 369 0 0) 0 = V 381 := by rw [bk0, f3.c381, e381]
    refine m_done (d := d + 3) (U := U) (L := fun g g' => Lkep i j g g' ∧ ∀ q, 93 ≤ q → q < 101 → g' q = g q) (by rw [upm_k (by decide), e369]; exact u3) u1 ((m_may4 (d := d + 2) (b := 0) rfl (by omega) (by omega) (by omega)).use ⟨by rw [hbk, if_pos ⟨by omega, ce⟩], rfl⟩) ⟨d + 2, rfl⟩ (fun V5 hV5 => ?_) (fun V6 h6 h19 hl => ⟨fun _ => ?_, fun c => absurd c (by decide)⟩)
    · have e5 : ∀ i, i < 206 → V5 381 i = V 381 i := fun i hi => by rw [hV5 i hi, f3.c381, e381]
      refine Mv.use (m_do4 (d := d) (V := V5) (b := 0) (x := i) (z := j) (n := m') (B := B) rfl (by omega) (by omega) (by omega) (by rw [bk0, e5 _ (by omega)]; exact hB0) c8 (by rw [bk0, e5 _ (by omega)]; exact a2) (by rw [bk0, e5 _ (by omega)]; exact g2) a4 (by rw [bk0]; exact a6.congr (fun s hs => e5 _ (by omega))) (by rw [bk0]; exact g6.congr (fun s hs => e5 _ (by omega)))) (fun V6 ⟨q1, q2, q3⟩ => ⟨q1, ?_, fun q h7 h8 => ?_⟩)
      · rw [bk0, bk0] at q2
        exact q2.congr (by omega) (by omega) (by rw [e5 _ (by omega), hB0]; omega) (by rw [e5 _ (by omega), a2]; omega) (fun q hq => (hV5 q (by omega)).symm) (fun _ _ _ => rfl)
      · have := q3 q h7 h8
        rw [bk0, bk0] at this
        rw [this, hV5 q (by omega)]
    · rw [f3.c381, e381] at hl
      obtain ⟨hl, hl93⟩ := hl
      have h6' := h6.th
      obtain ⟨b1, b2, b3, b4, b5, b6⟩ := id h6'
      have h84 : V6 381 84 = ((B + 1 : Nat) : Int) := by rw [hl.1, hB0]; omega
      rw [h84, ix93k (show B < 8 by omega), tn, upm_a (b := 381) (a := 369) (by omega), upm_k (show (84 : Nat) ≠ 93 + B by omega), h84, w32_p (i := B) (by omega), upm_a (b := 369) (a := 381) (by omega), h19, upm_k (by decide), e369, ← hmd]
      rw [hM1 ()]
      generalize hV7 : upm (upm V6 381 (93 + B) (V 0 17)) 369 19 M1 = V7
      have e7 : ∀ c, c ≠ 369 → c ≠ 381 → V7 c = V6 c := fun c q1 q2 => by rw [← hV7, upm_off c q1, upm_off c q2]
      have e79 : ∀ q, q ≠ 19 → V7 369 q = V6 369 q := fun q hq => by rw [← hV7, upm_k hq, upm_a (by omega)]
      have e719 : V7 369 19 = M1 := by rw [← hV7, upm_s]
      have e781 : ∀ q, q ≠ 93 + B → V7 381 q = V6 381 q := fun q hq => by rw [← hV7, upm_a (by omega), upm_k hq]
      have e793 : V7 381 (93 + B) = V 0 17 := by rw [← hV7, upm_a (by omega), upm_s]
      have hl7 : Lkep i j (V 381) (V7 381) := hl.congr (by omega) (by omega) (by omega) (by rw [a2]; omega) (fun _ _ => rfl) (fun q hq hn => e781 q (by rw [hB0, tn] at hn; exact hn))
      have e6 : ∀ c, ¬ MSc c → c ≠ 369 → c ≠ 381 → c < 142 → V7 c = V2 c := fun c q1 q2 q3 q4 => by rw [e7 c q2 q3, b3 c q1 q2 q3, j1 c (by omega)]
      have hl4 := hl7.2.2.2
      rw [hB0, tn] at hl4
      refine ⟨⟨by omega, by omega⟩, _, rfl, rfl, inv_deed (V6 := V7) (B' := B + 1) (S := S) hT hK hTo hLw hM hH hLn (fun c q1 q2 q3 q4 => e3 c (by omega) (by omega) (by omega) (by omega) (by omega) (by omega)) u2 (dd_of j2 (by rw [e2 _ (by omega) (by omega), e1 _ (by omega) (by omega) (by omega) (by omega)]) (by rw [e2 _ (by omega) (by omega), e1 _ (by omega) (by omega) (by omega) (by omega)]) (by rw [e2 _ (by omega) (by omega), e1 _ (by omega) (by omega) (by omega) (by omega)])) ⟨by rw [e79 18 (by omega)]; exact b1, by rw [e79 2 (by omega)]; exact b2, fun c q1 q2 q3 => by rw [e7 c q2 q3]; exact b3 c q1 q2 q3, fun q hq => by rw [e781 q (by omega)]; exact b4 q hq, fun k q h7 h8 => by rw [e781 _ (by omega)]; exact b5 k q h7 h8, fun q hq => by rw [e781 _ (by omega)]; exact b6 q hq⟩ (Or.inr (Or.inr (Or.inr (Or.inr ⟨rfl, by omega, by omega, hl7.drp⟩)))) (live_br hL ?_ ?_ (by rw [e7 375 (by omega) (by omega), b3 375 (by omega) (by omega) (by omega), e375]) (fun c hc => by rw [e6 c (by omega) (by omega) (by omega) (by omega), e2 c (by omega) (by omega), e1 c (by omega) (by omega) (by omega) (by omega)]) (by rw [e6 43 (by omega) (by omega) (by omega) (by omega), e2 43 (by omega) (by omega)]; exact k2 5 (by omega)) (by rw [e6 43 (by omega) (by omega) (by omega) (by omega), e2 43 (by omega) (by omega)]; exact k2 7 (by omega)) (fun q hq => ?_)) ?_⟩
      · refine (k4 (V7 381) hl7).congr (by rw [e6 43 (by omega) (by omega) (by omega) (by omega), e2 43 (by omega) (by omega)]) (fun k hk => ⟨?_, by rw [e6 _ (by omega) (by omega) (by omega) (by omega), e2 _ (by omega) (by omega)]⟩) (fun _ _ _ => rfl)
        rw [e6 _ (by omega) (by omega) (by omega) (by omega)]
        by_cases c : k = B
        · rw [c]; exact e2k 2 (by omega)
        · rw [e2 _ (by omega) (by omega)]
      · intro k hk
        rw [e6 _ (by omega) (by omega) (by omega) (by omega)]
        by_cases c : k = B
        · rw [c, e793]; exact e23
        · rw [e2 _ (by omega) (by omega), e1 _ (by omega) (by omega) (by omega) (by omega), e781 _ (by omega), hl93 _ (by omega) (by omega)]
          exact hL.2.2.1 k (by omega)
      · by_cases c : q < 181
        · exact hl4 q c (by omega) (by omega) (by omega) (by omega)
        · rw [e781 q (by omega), b4 q (by omega), e381]
      · rw [e719, e7 0 (by omega) (by omega), b3 0 (by omega) (by omega) (by omega), j1 0 (by omega)]; exact e20
  · refine ⟨fun _ => ⟨_, rfl, ?_⟩, fun c => absurd (by decide) c⟩
    have f0 : FrM V1 (upm V1 369 0 0) := FrM.th 0
    refine sX12_keep _ _ ((m_isBraid (d := d + 4) _).use ?_)
    rw [f0.c381, hB0]
    by_cases q : 0 ≤ x ∧ x < (B : Int)
    · rw [if_pos q]
      refine ⟨fun c => absurd c (by decide), fun _ => (m_isBraid (d := d + 4) _).use ?_⟩
      rw [f0.c381, hB0]
      by_cases q2 : 0 ≤ y ∧ y < (B : Int)
      · rw [if_pos q2]
        refine ⟨fun c => absurd c (by decide), fun _ => ?_⟩
        obtain ⟨i, rfl⟩ : ∃ i : Nat, x = i := ⟨x.toNat, by omega⟩
        obtain ⟨j, rfl⟩ : ∃ j : Nat, y = j := ⟨y.toNat, by omega⟩
        refine sX12_isDone _ _ _ ((m_may4 (d := d + 2) (b := 0) rfl (by omega) (by omega) (by omega)).use ?_)
        rw [bk0, f0.c381, if_neg (fun w => c1 ⟨⟨q, q2⟩, by rw [tn, tn]; exact w.2, by have := w.1; omega⟩)]
        exact ⟨fun c => absurd rfl c, fun _ => ⟨_, rfl, fun c => absurd rfl c, fun _ => ⟨_, rfl, rfl, inv_th hI⟩⟩⟩
      · rw [if_neg q2]
        exact ⟨fun _ => ⟨_, rfl, rfl, inv_th hI⟩, fun c => absurd rfl c⟩
    · rw [if_neg q]
      exact ⟨fun _ => ⟨_, rfl, rfl, inv_th hI⟩, fun c => absurd rfl c⟩
end HN3
