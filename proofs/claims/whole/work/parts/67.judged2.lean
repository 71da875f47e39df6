/-! ===== judged, the two together ===== -/
section JU2
variable {K : KK} {d : Nat} {V : Mem}
/-- the reference's trial block alone has changed -/
theorem trial_inv (hI : Inv V) {V' : Mem} (h1 : ∀ c, ¬ MSc c → c ≠ 369 → c ≠ 381 → V' c = V c) (h2 : ∀ j, j ≠ 0 → V' 369 j = V 369 j) (h3 : ∀ j, j < 4326 → V' 381 j = V 381 j) : Inv V' := by
  obtain ⟨P, n, R, B, S, BT, hT, hK, hTo, hLw, hL, hM, hH, hLn, hmd⟩ := hI
  have hR := hTo.1.2.2.1
  exact ⟨P, n, R, B, S, BT, hT.congr (by rw [h1 1 (by omega) (by omega) (by omega)]) (h1 2 (by omega) (by omega) (by omega)) (h1 370 (by omega) (by omega) (by omega)) (h2 2 (by omega)), hK.congr (h1 3 (by omega) (by omega) (by omega)) (h1 374 (by omega) (by omega) (by omega)), hTo.congr (fun c q1 q2 => h1 c (by omega) (by omega) (by omega)) (h1 375 (by omega) (by omega) (by omega)) (h1 377 (by omega) (by omega) (by omega)), hLw.congr (h1 135 (by omega) (by omega) (by omega)) (h1 136 (by omega) (by omega) (by omega)) (by rw [h1 375 (by omega) (by omega) (by omega)]) (fun j _ => by rw [h1 376 (by omega) (by omega) (by omega)]), hL.congr (fun c q1 q2 => h1 c (by omega) (by omega) (by omega)) (h1 375 (by omega) (by omega) (by omega)) (fun i hi => h3 i (by omega)), hM.congr (h1 134 (by omega) (by omega) (by omega)) (h1 382 (by omega) (by omega) (by omega)) (h1 375 (by omega) (by omega) (by omega)) (fun c q1 q2 => h1 c (by omega) (by omega) (by omega)) (fun j _ _ => h3 j (by omega)), hH.congr hR (fun c q1 q2 => h1 c (by omega) (by omega) (by omega)) (h2 18 (by omega)) (fun j _ => h3 j (by omega)), hLn.congr (fun c q1 q2 => h1 c (by omega) (by omega) (by omega)) (h1 378 (by omega) (by omega) (by omega)), by rw [h1 0 (by omega) (by omega) (by omega), h2 19 (by omega)]; exact hmd⟩
/-- what judged answers -/
noncomputable def jdR (L : Nat → Int) (g0 : Nat → Int) (R n : Nat) (w : Int) : Int := if w = 0 then fwS L g0 n else if w = 1 then nmS (gSq L g0 n) R else gSq L g0 n 84
theorem nmS_congr {g h : Nat → Int} : ∀ r, (∀ q, q < r → h q = g q) → nmS h r = nmS g r
  | 0, _ => rfl
  | r + 1, hq => by
    show nmS h r + h r = nmS g r + g r
    rw [nmS_congr r (fun q hq2 => hq q (by omega)), hq r (by omega)]
theorem lnOK_of {R BT n i : Nat} {L : Nat → Int} (h : ∀ i, i < n → (L (1 + 3 * i) = 0 ∧ (0 ≤ L (2 + 3 * i) ∧ L (2 + 3 * i) < R) ∧ 0 ≤ L (3 + 3 * i) ∧ L (3 + 3 * i) ≤ 99) ∨ ((L (1 + 3 * i) = 1 ∨ L (1 + 3 * i) = 2) ∧ 0 ≤ L (2 + 3 * i) ∧ L (2 + 3 * i) < R) ∨ (L (1 + 3 * i) = 3 ∧ (0 ≤ L (2 + 3 * i) ∧ L (2 + 3 * i) < BT) ∧ 0 ≤ L (3 + 3 * i) ∧ L (3 + 3 * i) ≤ 8) ∨ (L (1 + 3 * i) = 4 ∧ (0 ≤ L (2 + 3 * i) ∧ L (2 + 3 * i) < BT) ∧ 0 ≤ L (3 + 3 * i) ∧ L (3 + 3 * i) < BT)) (hi : i < n) : lnOK R BT (L (1 + 3 * i)) (L (2 + 3 * i)) (L (3 + 3 * i)) := h i hi
theorem x_judged {R BT n : Nat} (hE : kE K = false) (hTo : ToldC V R BT) (hn : V 138 3 = n) (hn30 : n ≤ 30) (hl : ∀ i, i < n → V 139 i = 131 + V 378 (1 + 3 * i) ∧ V 140 i = V 378 (2 + 3 * i) ∧ V 141 i = V 378 (3 + 3 * i) ∧ lnOK R BT (V 378 (1 + 3 * i)) (V 378 (2 + 3 * i)) (V 378 (3 + 3 * i))) (w : Int) : Mi K (d + 5) mX11_judged [vR 0, vI w] V (fun z V' => FrX V V' ∧ z = (if 0 ≤ w ∧ w ≤ 2 then jdR (V 378) (gIni (V 375)) R n w else -2) ∧ (0 ≤ w ∧ w ≤ 2 → ∀ i, i ≤ n → bOK R (gSq (V 378) (gIni (V 375)) i) ∧ (BT : Int) ≤ gSq (V 378) (gIni (V 375)) i 84)) := by
  obtain ⟨⟨t1, t2, t3, t4, t5, t6, t7⟩, tb, tc, -⟩ := id hTo
  have hI : StI (V 375) R BT (gIni (V 375)) := gIni_I t3 t5 t6 (fun r hr => by
    obtain ⟨m, m1, m2, m3, m4, -⟩ := tb r hr
    omega)
  obtain ⟨r1, r2, r3⟩ := told_rw hTo hI
  -- the blocks are of their sizes: a walk of the pure blocks over a virtual store
  obtain ⟨L, hL⟩ : ∃ L : Nat → Int, L = V 378 := ⟨_, rfl⟩
  obtain ⟨g0, hg0⟩ : ∃ g0 : Nat → Int, g0 = gIni (V 375) := ⟨_, rfl⟩
  rw [← hg0] at r1 r2 r3
  rw [← hL, ← hg0]
  rw [← hL] at hl
  have wqA : ∀ V3 : Mem, ∀ i, i ≤ n → ∀ V' : Mem, FrX V V' → CpRw V' 103 (gSq L g0 i) (kdV V) R → (∃ B, BT ≤ B ∧ CpB0 V' 103 (gSq L g0 i) B) → (∀ j, j < i → bOK R (gSq L g0 j) ∧ (BT : Int) ≤ gSq L g0 j 84) → 0 ≤ w ∧ w ≤ 2 → Wf K (d + 5) mX11_judged 27 [some (vR 0), some (vI w), some (vI (fwS L g0 i)), some (vI (i : Int)), none] [] V' (fun r V' => ∃ z, r = some (vI z) ∧ FrX V V' ∧ z = (if 0 ≤ w ∧ w ≤ 2 then jdR L g0 R n w else -2) ∧ (0 ≤ w ∧ w ≤ 2 → ∀ i, i ≤ n → bOK R (gSq L g0 i) ∧ (BT : Int) ≤ gSq L g0 i 84)) := by
    intro _
    refine up_ind ?_ ?_
    · intro V' f1 f2 ⟨B, f3, f4⟩ f5 hw
      have fin : ∀ i, i ≤ n → bOK R (gSq L g0 i) ∧ (BT : Int) ≤ gSq L g0 i 84 := fun i hi => by
        by_cases c : i = n
        · rw [c]
          have := f4.2.1
          exact ⟨bOK.of f2 f4, by omega⟩
        · exact f5 i (by omega)
      refine sX11_judged_27 _ _ _ ⟨fun _ => ⟨fun c0 => ⟨fun c1 => ⟨_, rfl, f1, ?_, fun _ => fin⟩, fun c1 => ?_⟩, fun c0 => ⟨_, rfl, f1, ?_, fun _ => fin⟩⟩, fun c => absurd (by rw [f1 138 (by omega), hn]; exact Int.le_refl _) c⟩
      · rw [if_pos hw]
        unfold jdR
        rw [if_neg c0, if_neg c1, f4.1, f4.2.1]
      · refine (c_allNumbers (d := d + 4) is103 f2).use ⟨_, rfl, f1, ?_, fun _ => fin⟩
        rw [if_pos hw]
        unfold jdR
        rw [if_neg c0, if_pos c1]
      · rw [if_pos hw]
        unfold jdR
        rw [if_pos c0]
    · intro i hi ih V' f1 f2 ⟨B, f3, f4⟩ f5 hw
      obtain ⟨y1, y2, y3, y4⟩ := hl i hi
      obtain ⟨dv, dw, dx⟩ := c_dd (K := K) (d := d + 3) (V := V') (a := 138) (n0 := 30) (U := n) (k := i) is138 (by rw [f1 138 (by omega)]; exact hn) hi (by omega)
      refine sX11_judged_27 _ _ _ ⟨fun c => absurd c (by rw [f1 138 (by omega), hn]; omega), fun _ => dv.use (dw.use (dx.use ?_))⟩
      rw [show (138 + 1 : Nat) = 139 from rfl, show (138 + 2 : Nat) = 140 from rfl, show (138 + 3 : Nat) = 141 from rfl, f1 139 (by omega), f1 140 (by omega), f1 141 (by omega), y1, y2, y3]
      refine (c_doLine (d := d) f2 f4 f3 y4).use (fun z V8 ⟨k1, k2, k3, k4⟩ => ?_)
      have f6 : FrX V V8 := fun c hc => by rw [k1 c (by omega) (by omega)]; exact f1 c hc
      have hb : ∀ j, j < i + 1 → bOK R (gSq L g0 j) ∧ (BT : Int) ≤ gSq L g0 j 84 := fun j hj => by
        by_cases c : j = i
        · rw [c]
          have := f4.2.1
          exact ⟨bOK.of f2 f4, by omega⟩
        · exact f5 j (by omega)
      rw [w32_s (i := i) (by omega)]
      rcases k2 with ⟨rfl, q⟩ | ⟨rfl, q⟩
      · refine ⟨fun _ => ?_, fun c => absurd c (by decide)⟩
        have := ih V8 f6 k3 k4 hb hw
        rw [fwS_f (fun c => c.2 q)] at this
        exact this
      · refine ⟨fun c => absurd rfl c, fun _ => ⟨fun c => ?_, fun c => ?_⟩⟩
        · have := ih V8 f6 k3 k4 hb hw
          rw [fwS_f (fun c2 => c c2.1)] at this
          exact this
        · have := ih V8 f6 k3 k4 hb hw
          rw [fwS_t ⟨c, q⟩] at this
          exact this
  -- where judged is asked for nothing, the sizes still have to be told: by the same walk
  by_cases hw : 0 ≤ w ∧ w ≤ 2
  · refine sX11_judged w ⟨fun c => by omega, fun _ => ⟨fun _ => ?_, fun c => by omega⟩⟩
    refine (c_copyStore (d := d + 2) (R := R) (B := BT) (S := 0) is103 is73 (by omega) hE t1 t3 t4 (by omega) t7 (by omega) (fun i hi => absurd hi (Nat.not_lt_zero i))).use (fun V3 ⟨k1, k2⟩ => ?_)
    exact wqA V3 0 (Nat.zero_le _) V3 (fun c hc => k1 c (by omega)) (k2.rw r1) ⟨BT, Nat.le_refl _, k2.b0 r2⟩ (fun j hj => absurd hj (Nat.not_lt_zero j)) hw
  · exact sX11_judged w ⟨fun c => ⟨_, rfl, FrX.rf, by rw [if_neg hw], fun q => absurd q hw⟩, fun _ => ⟨fun c => by omega, fun c => ⟨_, rfl, FrX.rf, by rw [if_neg hw], fun q => absurd q hw⟩⟩⟩
theorem StI.eq {I : Nat → Int} {R BT : Nat} {g h : Nat → Int} (h1 : StI I R BT g) (h2 : StI I R BT h) (b : bOK R g) : EqM R g h := by
  obtain ⟨b1, b2, b3, b4⟩ := b
  have e84 := h1.2.1
  refine ⟨fun r hr => ⟨(h2.1 r hr).1.trans (h1.1 r hr).1.symm, fun p hp => ?_⟩, h2.2.1.trans e84.symm, fun k hk => ?_⟩
  · rw [(h1.1 r hr).1] at hp
    exact ((h2.1 r hr).2 p hp).trans ((h1.1 r hr).2 p hp).symm
  · have b5 := b4 k hk
    rw [e84, tn] at hk
    obtain ⟨x1, x2, x3⟩ := h1.2.2 k hk
    obtain ⟨y1, y2, y3⟩ := h2.2.2 k hk
    exact ⟨y1.trans x1.symm, fun s hs => (y3 s (by omega)).trans (x3 s (by omega)).symm⟩
theorem m_judged {R BT n : Nat} (t2 : V 375 0 = R) (t3 : R ≤ 4) (t5 : V 375 1 = BT) (t6 : BT ≤ 4) (tb : ∀ r, r < R → 1 ≤ V 375 (4 + 22 * r) ∧ V 375 (4 + 22 * r) ≤ 20) (hn : V 378 0 = n) (hn30 : n ≤ 30) (hl : ∀ i, i < n → lnOK R BT (V 378 (1 + 3 * i)) (V 378 (2 + 3 * i)) (V 378 (3 + 3 * i))) (w : Int) (hsz : 0 ≤ w ∧ w ≤ 2 → ∀ i, i ≤ n → bOK R (gSq (V 378) (gIni (V 375)) i) ∧ (BT : Int) ≤ gSq (V 378) (gIni (V 375)) i 84) : Mi K (d + 4) mX12_judged [vR 369, vI w] V (fun z V' => ((∀ c, ¬ MSc c → c ≠ 369 → c ≠ 381 → V' c = V c) ∧ (∀ j, j ≠ 0 → V' 369 j = V 369 j) ∧ ∀ j, j < 4326 → V' 381 j = V 381 j) ∧ z = (if 0 ≤ w ∧ w ≤ 2 then jdR (V 378) (gIni (V 375)) R n w else -2)) := by
  have f0 : FrM V (upm V 369 0 0) := FrM.th 0
  have e378 : (upm V 369 0 0) 378 = V 378 := upm_off 378 (by decide)
  have fr0 : (∀ c, ¬ MSc c → c ≠ 369 → c ≠ 381 → (upm V 369 0 0) c = V c) ∧ (∀ j, j ≠ 0 → (upm V 369 0 0) 369 j = V 369 j) ∧ ∀ j, j < 4326 → (upm V 369 0 0) 381 j = V 381 j := ⟨fun c _ q _ => upm_off c q, fun j q => upm_k q, fun j _ => by rw [f0.c381]⟩
  refine sX12_judged w ((m_within (d := d + 3) _ _ _).use ?_)
  by_cases hw : 0 ≤ w ∧ w ≤ 2
  · rw [if_pos hw, if_pos hw]
    have hsz := hsz hw
    refine ⟨fun _ => ?_, fun c => absurd c (by decide)⟩
    refine Mv.use (m_starts (d := d + 2) (V := upm V 369 0 0) (b := 4326) (R := R) (BT := BT) (by omega) (by rw [f0.c375]; exact t2) t3 (by rw [f0.c375]; exact t5) t6 (by rw [f0.c375]; exact tb)) (fun V3 ⟨k1, k2, k3⟩ => ?_)
    rw [f0.c375] at k3
    have hE0 : EqM R (gIni (V 375)) (bk V3 4326) := StI.eq (gIni_I t3 t5 t6 tb) k3 (hsz 0 (Nat.zero_le _)).1
    obtain ⟨L, hL⟩ : ∃ L : Nat → Int, L = V 378 := ⟨_, rfl⟩
    obtain ⟨g0, hg0⟩ : ∃ g0 : Nat → Int, g0 = gIni (V 375) := ⟨_, rfl⟩
    rw [← hg0] at hE0
    rw [← hL, ← hg0] at hsz ⊢
    rw [← hL] at hl
    have wqA : ∀ i, i ≤ n → ∀ V' : Mem, (∀ c, ¬ MSc c → c ≠ 369 → c ≠ 381 → V' c = V c) → (∀ j, j ≠ 0 → V' 369 j = V 369 j) → (∀ j, j < 4326 → V' 381 j = V 381 j) → EqM R (gSq L g0 i) (bk V' 4326) → Wf K (d + 4) mX12_judged 28 [some (vR 369), some (vI w), some (vI (fwS L g0 i)), some (vI (i : Int)), none, none] [] V' (fun r V' => ∃ z, r = some (vI z) ∧ ((∀ c, ¬ MSc c → c ≠ 369 → c ≠ 381 → V' c = V c) ∧ (∀ j, j ≠ 0 → V' 369 j = V 369 j) ∧ ∀ j, j < 4326 → V' 381 j = V 381 j) ∧ z = jdR L g0 R n w) := by
      refine up_ind ?_ ?_
      · intro V' f1 f2 f3 f4
        have e378' : V' 378 = V 378 := f1 378 (by omega) (by omega) (by omega)
        refine sX12_judged_28 _ _ _ ⟨fun _ => ⟨fun c0 => ⟨fun c1 => ⟨_, rfl, ⟨f1, f2, f3⟩, ?_⟩, fun c1 => ?_⟩, fun c0 => ⟨_, rfl, ⟨f1, f2, f3⟩, ?_⟩⟩, fun c => absurd (by rw [e378', hn]; exact Int.le_refl _) c⟩
        · unfold jdR
          rw [if_neg c0, if_neg c1]
          exact f4.2.1
        · refine (m_numbersOf (d := d + 2) (V := V') (b := 4326) (R := R) (by omega) (by rw [f1 375 (by omega) (by omega) (by omega)]; exact t2) t3 (fun r hr => ?_)).use ⟨_, rfl, ⟨f1, f2, f3⟩, ?_⟩
          · rw [(f4.1 r hr).1]; exact (hsz n (Nat.le_refl _)).1.2.1 r hr
          · unfold jdR
            rw [if_neg c0, if_pos c1]
            exact nmS_congr R (fun q hq => (f4.1 q hq).1)
        · unfold jdR
          rw [if_pos c0]
      · intro i hi ih V' f1 f2 f3 f4
        have e378' : V' 378 = L := by rw [hL]; exact f1 378 (by omega) (by omega) (by omega)
        have hi30 : i < 30 := by omega
        obtain ⟨bo, bt⟩ := hsz i (by omega)
        refine sX12_judged_28 _ _ _ ⟨fun c => absurd c (by rw [e378', hL, hn]; omega), fun _ => ?_⟩
        rw [ixl1 hi30, ixl2 hi30, ixl3 hi30, tn, tn, tn, e378']
        refine ⟨⟨by omega, by omega⟩, ⟨by omega, by omega⟩, ⟨by omega, by omega⟩, ?_⟩
        refine Mi.use (m_mayL (d := d + 2) f4 bo bt (hl i hi)) (fun z V5 ⟨ev, hz⟩ => ?_)
        subst ev
        have nx : ∀ (V6 : Mem) (y : Int), (∀ c, ¬ MSc c → c ≠ 369 → c ≠ 381 → V6 c = V c) → (∀ j, j ≠ 0 → V6 369 j = V 369 j) → (∀ j, j < 4326 → V6 381 j = V 381 j) → EqM R (gSq L g0 (i + 1)) (bk V6 4326) → y = fwS L g0 (i + 1) → Wf K (d + 4) mX12_judged 131 [some (vR 369), some (vI w), some (vI y), some (vI (i : Int)), none, none] [] V6 (fun r V' => ∃ z, r = some (vI z) ∧ ((∀ c, ¬ MSc c → c ≠ 369 → c ≠ 381 → V' c = V c) ∧ (∀ j, j ≠ 0 → V' 369 j = V 369 j) ∧ ∀ j, j < 4326 → V' 381 j = V 381 j) ∧ z = jdR L g0 R n w) := by
          intro V6 y q1 q2 q3 q4 q5
          refine sX12_judged_131 _ _ _ ?_
          rw [w32_s (i := i) (by omega), q5]
          exact ih V6 q1 q2 q3 q4
        rcases hz with ⟨rfl, q⟩ | ⟨rfl, q⟩
        · refine ⟨fun _ => sX12_judged_92 _ _ _ _ _ (sX12_judged_93 _ _ _ _ _ ⟨fun c => absurd c (by decide), fun _ => ?_⟩), fun c => absurd c (by decide)⟩
          rw [ixl2 hi30, ixl3 hi30, tn, tn, tn, e378']
          refine ⟨⟨by omega, by omega⟩, ⟨by omega, by omega⟩, ⟨by omega, by omega⟩, ?_⟩
          refine Mv.use (m_doL (d := d) f4 bo bt (hl i hi) q) (fun V6 ⟨⟨p1, p2⟩, p3⟩ => ?_)
          exact nx V6 _ (fun c q1 q2 q3 => by rw [p1 c q1 q3]; exact f1 c q1 q2 q3) (fun j q1 => by rw [p1 369 (by omega) (by omega)]; exact f2 j q1) (fun j q1 => by rw [p2 j (by omega)]; exact f3 j q1) p3 (fwS_f (fun c => c.2 q)).symm
        · have eg : gSq L g0 (i + 1) = gSq L g0 i := gNx_f q
          have ee : EqM R (gSq L g0 (i + 1)) (bk V5 4326) := by rw [eg]; exact f4
          refine ⟨fun c => absurd rfl c, fun _ => ⟨fun c => sX12_judged_92 _ _ _ _ _ (sX12_judged_93 _ _ _ _ _ ⟨fun _ => nx V5 _ f1 f2 f3 ee (fwS_f (fun c2 => ?_)).symm, fun c => absurd rfl c⟩), fun c => sX12_judged_93 _ _ _ _ _ ⟨fun _ => nx V5 _ f1 f2 f3 ee (fwS_t ⟨?_, q⟩).symm, fun c => absurd rfl c⟩⟩⟩
          · rw [c2.1] at c; exact absurd c (by decide)
          · rcases fwS_r (L := L) (g0 := g0) i with h | h
            · exact h
            · exact absurd h c
    exact wqA 0 (Nat.zero_le _) V3 (fun c q1 q2 q3 => by rw [k1 c q3]; exact fr0.1 c q1 q2 q3) (fun j q => by rw [k1 369 (by decide)]; exact fr0.2.1 j q) (fun j q => by rw [k2 j (by omega)]; exact fr0.2.2 j q) hE0
  · rw [if_neg hw, if_neg hw]
    exact ⟨fun c => absurd rfl c, fun _ => ⟨_, rfl, fr0, rfl⟩⟩
theorem st_judged (hI : Inv V) (hE : kE K = false) (w : Int) : Bth K (d + 5) mX11_judged [vR 0, vI w] mX12_judged [vR 369, vI w] V := by
  obtain ⟨P, n, R, B, S, BT, hT, hK, hTo, hLw, hL, hM, hH, hLn, hmd⟩ := id hI
  obtain ⟨ln, n1, n2, n3, n4⟩ := hLn
  refine Mi.use (x_judged (d := d) hE hTo n1 n3 n4 w) (fun z V1 ⟨f1, e1, hs⟩ => ?_)
  obtain ⟨⟨t1, t2, t3, t4, t5, t6, t7⟩, tb, tc, -⟩ := id hTo
  have g1 : V1 375 = V 375 := f1 375 (by omega)
  have g2 : V1 378 = V 378 := f1 378 (by omega)
  refine Mi.use (m_judged (d := d + 1) (V := V1) (R := R) (BT := BT) (n := ln) (by rw [g1]; exact t2) t3 (by rw [g1]; exact t5) t6 (fun r hr => by
    rw [g1]
    obtain ⟨m, m1, m2, m3, m4, -⟩ := tb r hr
    omega) (by rw [g2]; exact n2) n3 (fun i hi => by rw [g2]; exact (n4 i hi).2.2.2) w (by rw [g1, g2]; exact hs)) (fun z2 V2 ⟨⟨a1, a2, a3⟩, e2⟩ => ⟨?_, trial_inv (frx_inv hI f1) a1 a2 a3⟩)
  rw [e1, e2, g1, g2]
end JU2
