/-! ===== the reference's questions on braids ===== -/
section MBQ
variable {K : KK} {d : Nat} {V : Mem} {B : Nat}
theorem m_crossingsOf {k n : Nat} (hk : k < 8) (hn : V 381 (85 + k) = n) (h10 : n ≤ 10) : Pu K (d + 1) mX12_crossingsOf [vR 369, vI (k : Int)] V ((crO (EB V k) n : Nat) : Int) := by
  refine sX12_crossingsOf _ ?_
  have wqA : ∀ s, s ≤ n → Wf K (d + 1) mX12_crossingsOf 4 [some (vR 369), some (vI (k : Int)), some (vI ((crO (EB V k) s : Nat) : Int)), some (vI (s : Int)), none] [] V (fun r V' => ∃ z, r = some (vI z) ∧ z = ((crO (EB V k) n : Nat) : Int) ∧ V' = V) := by
    refine up_ind ?_ ?_
    · refine sX12_crossingsOf_4 _ _ _ ?_
      rw [ix85 hk, tn, hn]
      exact ⟨⟨by omega, by omega⟩, fun _ => ⟨_, rfl, rfl, rfl⟩, fun c => absurd (Int.le_refl _) c⟩
    · intro s hs ih
      refine sX12_crossingsOf_4 _ _ _ ?_
      rw [ix85 hk, tn, hn]
      refine ⟨⟨by omega, by omega⟩, fun c => by omega, fun _ => ?_⟩
      have b1 := crO_le (e := EB V k) s (by omega)
      have e : crO (EB V k) (s + 1) = crO (EB V k) s + crI (EB V k) s s := rfl
      rw [e] at ih
      generalize crO (EB V k) s = T at *
      have wqB : ∀ q, q ≤ s → Wf K (d + 1) mX12_crossingsOf 16 [some (vR 369), some (vI (k : Int)), some (vI ((T + crI (EB V k) s q : Nat) : Int)), some (vI (s : Int)), some (vI (q : Int))] [] V (fun r V' => ∃ z, r = some (vI z) ∧ z = ((crO (EB V k) n : Nat) : Int) ∧ V' = V) := by
        refine up_ind ?_ ?_
        · refine sX12_crossingsOf_16 _ _ _ _ ⟨fun _ => ?_, fun c => absurd (Int.le_refl _) c⟩
          rw [w32_s (i := s) (by omega)]
          exact ih
        · intro q hq ih2
          have b2 := crI_le (e := EB V k) (s := s) q
          have e2 : crI (EB V k) s (q + 1) = crI (EB V k) s q + (if V 381 (101 + 10 * k + s) < V 381 (101 + 10 * k + q) then 1 else 0) := rfl
          rw [e2] at ih2
          generalize crI (EB V k) s q = U at *
          refine sX12_crossingsOf_16 _ _ _ _ ⟨fun c => by omega, fun _ => ?_⟩
          rw [ix101 hk (show s < 10 by omega), ix101 hk (show q < 10 by omega), tn, tn, w32_s (i := q) (by omega), w32_s (i := T + U) (by omega), w32_id (x := ((T + U : Nat) : Int) + 0) (by omega) (by omega)]
          refine ⟨⟨by omega, by omega⟩, ⟨by omega, by omega⟩, fun c => ?_, fun c => ?_⟩
          · rw [if_neg (by omega)] at ih2; exact ih2
          · rw [if_pos (by omega)] at ih2; exact ih2
      exact wqB 0 (Nat.zero_le _)
  exact wqA 0 (Nat.zero_le _)
theorem m_isBr {T : Int → Mem → Prop} {k : Int} {V1 : Mem} (hV : FrM V V1) (h0 : ¬ brC V k → T 0 V1) (h1 : brC V k → T 1 V1) : Mi K d mX12_isBraid [vR 369, vI k] V1 T := by
  refine (m_isBraid (d := d) k).use ?_
  rw [hV.c381]
  by_cases hc : brC V k
  · rw [if_pos hc]; exact h1 hc
  · rw [if_neg hc]; exact h0 hc
theorem m_braid (hb : CpBr V 43 (V 381) B) (k w : Int) : Mi K (d + 2) mX12_braid [vR 369, vI k, vI w] V (fun z V' => FrM V V' ∧ z = if brC V k ∧ 0 ≤ w ∧ w ≤ 2 then (if w = 0 then V 381 (85 + k.toNat) else if w = 1 then ((crO (EB V k.toNat) (nBr V k.toNat) : Nat) : Int) else V 381 (93 + k.toNat)) else -1) := by
  have x2 := hb.2.1
  have x3 := hb.2.2.1
  have f0 : FrM V (upm V 369 0 0) := FrM.th 0
  refine sX12_braid k w (m_isBr (d := d + 1) f0 (fun c => ⟨fun _ => ⟨_, rfl, f0, by rw [if_neg (fun q => c q.1)]⟩, fun q => absurd rfl q⟩) (fun hc => ⟨fun q => absurd q (by decide), fun _ => (m_within (d := d + 1) _ _ _).use ?_⟩))
  obtain ⟨i, rfl⟩ : ∃ i : Nat, k = i := ⟨k.toNat, by omega⟩
  obtain ⟨n, y1, y2, y3, y4, y5, y6, y7, y8, y9⟩ := hb.at (show i < B by omega)
  have hi8 : i < 8 := by omega
  have e381 := f0.c381
  rw [ix85 hi8, ix93 hi8]
  simp only [tn]
  by_cases c : 0 ≤ w ∧ w ≤ 2
  · rw [if_pos c, if_pos ⟨hc, c⟩]
    refine ⟨fun _ => ⟨fun c0 => ⟨fun c1 => ⟨⟨by omega, by omega⟩, _, rfl, f0, ?_⟩, fun c1 => ?_⟩, fun c0 => ⟨⟨by omega, by omega⟩, _, rfl, f0, ?_⟩⟩, fun q => absurd q (by decide)⟩
    · rw [if_neg c0, if_neg c1, e381]
    · refine (m_crossingsOf (d := d) (V := upm V 369 0 0) (n := n) hi8 (by rw [e381]; exact y3) y5).use ⟨_, rfl, f0, ?_⟩
      rw [if_neg c0, if_pos c1]
      show ((crO (fun s => (upm V 369 0 0) 381 (101 + 10 * i + s)) n : Nat) : Int) = ((crO (EB V i) (V 381 (85 + i)).toNat : Nat) : Int)
      rw [y3, tn, e381]
    · rw [if_pos c0, e381]
  · rw [if_neg c, if_neg (fun q => c q.2)]
    exact ⟨fun q => absurd rfl q, fun _ => ⟨_, rfl, f0, rfl⟩⟩
theorem m_ends (hb : CpBr V 43 (V 381) B) (k s : Int) : Mi K (d + 2) mX12_ends [vR 369, vI k, vI s] V (fun z V' => FrM V V' ∧ z = if stC V k s then EB V k.toNat s.toNat else -1) := by
  have x2 := hb.2.1
  have x3 := hb.2.2.1
  have f0 : FrM V (upm V 369 0 0) := FrM.th 0
  refine sX12_ends k s (m_isBr (d := d + 1) f0 (fun c => ⟨fun _ => ⟨_, rfl, f0, by rw [if_neg (fun q => c q.1)]⟩, fun q => absurd rfl q⟩) (fun hc => ⟨fun q => absurd q (by decide), fun _ => ?_⟩))
  obtain ⟨i, rfl⟩ : ∃ i : Nat, k = i := ⟨k.toNat, by omega⟩
  obtain ⟨n, y1, y2, y3, y4, y5, y6, y7, y8, y9⟩ := hb.at (show i < B by omega)
  have hi8 : i < 8 := by omega
  have e381 := f0.c381
  rw [ix85 hi8, tn, e381, y3, w32_id (x := (n : Int) - 1) (by omega) (by omega)]
  refine ⟨⟨by omega, by omega⟩, (m_within (d := d + 1) _ _ _).use ?_⟩
  by_cases c : 0 ≤ s ∧ s ≤ (n : Int) - 1
  · rw [if_pos c]
    obtain ⟨t, rfl⟩ : ∃ t : Nat, s = t := ⟨s.toNat, by omega⟩
    rw [ix101 hi8 (show t < 10 by omega)]
    simp only [tn]
    refine ⟨fun q => absurd q (by decide), fun _ => ⟨⟨by omega, by omega⟩, _, rfl, f0, ?_⟩⟩
    rw [if_pos ⟨hc, by omega, by rw [tn, y3]; omega⟩, e381]
  · rw [if_neg c]
    exact ⟨fun _ => ⟨_, rfl, f0, by rw [if_neg (fun q => c (by have := q.2; rw [tn, y3] at this; omega))]⟩, fun q => absurd rfl q⟩
theorem m_counts (hb : CpBr V 43 (V 381) B) (k i j : Int) : Mi K (d + 2) mX12_counts [vR 369, vI k, vI i, vI j] V (fun z V' => FrM V V' ∧ z = if ctC V k i j then ((ctn (EB V k.toNat) (nBr V k.toNat) i.toNat j.toNat : Nat) : Int) else -1) := by
  have x2 := hb.2.1
  have x3 := hb.2.2.1
  have f0 : FrM V (upm V 369 0 0) := FrM.th 0
  refine sX12_counts k i j (m_isBr (d := d + 1) f0 (fun c => ⟨fun _ => ⟨_, rfl, f0, by rw [if_neg (fun q => c q.1)]⟩, fun q => absurd rfl q⟩) (fun hc => ⟨fun q => absurd q (by decide), fun _ => ?_⟩))
  obtain ⟨b, rfl⟩ : ∃ b : Nat, k = b := ⟨k.toNat, by omega⟩
  obtain ⟨n, y1, y2, y3, y4, y5, y6, y7, y8, y9⟩ := hb.at (show b < B by omega)
  have hi8 : b < 8 := by omega
  have e381 := f0.c381
  have no : ¬ ctC V (b : Int) i j → ∃ z, some (vI (-1)) = some (vI z) ∧ FrM V (upm V 369 0 0) ∧ z = if ctC V (b : Int) i j then ((ctn (EB V (b : Int).toNat) (nBr V (b : Int).toNat) i.toNat j.toNat : Nat) : Int) else -1 := fun c => ⟨_, rfl, f0, by rw [if_neg c]⟩
  rw [ix85 hi8]
  simp only [tn] at no ⊢
  rw [e381, y3]
  refine ⟨⟨by omega, by omega⟩, (m_within (d := d + 1) _ _ _).use ⟨fun c => no (fun q => ifz1 c (by have := q.2.1; rw [tn, y3] at this; exact this)), fun c1 => ⟨⟨by omega, by omega⟩, ?_⟩⟩⟩
  have c1 := ifz0 c1
  rw [e381, y3]
  refine (m_within (d := d + 1) _ _ _).use ⟨fun c2 => ?_, fun c => no (fun q => ifz1 c (by have := q.2.2; rw [tn, y3] at this; exact this))⟩
  have c2 := ifz0 c2
  refine (m_laysBraid (d := d + 1) (V := upm V 369 0 0) (b := 0) (k := b) (a := 394) (n := n) sh394 (by decide) (by omega) hi8 (by rw [e381, Nat.zero_add]; exact y3) y5).use (fun V2 ⟨k1, k2⟩ => ?_)
  rw [k1 381 (by decide), e381, y3]
  obtain ⟨p, rfl⟩ : ∃ p : Nat, i = p := ⟨i.toNat, by omega⟩
  obtain ⟨q, rfl⟩ : ∃ q : Nat, j = q := ⟨j.toNat, by omega⟩
  refine ⟨⟨by omega, by omega⟩, (m_countOf (d := d + 1) (V := V2) (n := n) sh394 (by decide) y5 y5 (by omega)).use ⟨_, rfl, f0.tr ⟨fun c w1 w2 => k1 c (by omega), fun j _ _ _ _ => by rw [k1 369 (by decide)]⟩, ?_⟩⟩
  rw [if_pos ⟨hc, by rw [tn, y3]; exact c1, by rw [tn, y3]; exact c2⟩, tn, tn]
  show _ = ((ctn (EB V b) (V 381 (85 + b)).toNat p q : Nat) : Int)
  rw [y3, tn]
  refine congrArg _ (ctn_congr (fun s hs => ?_) (by omega))
  rw [k2 s hs, e381, Nat.zero_add]
theorem lays0 {V1 : Mem} {T : Mem → Prop} {a k n : Nat} (h3 : SH[a]? = some (14, 10, [])) (ha : a = 394 ∨ a = 395) (hk : k < 8) (hV : FrM V V1) (hn : V 381 (85 + k) = n) (h10 : n ≤ 10) (ht : ∀ V2, FrM V V2 → (∀ c, c ≠ a → V2 c = V1 c) → (∀ s, s < n → V2 a s = EB V k s) → T V2) : Mv K d mX12_laysBraid [vR 369, vI 0, vI (k : Int), vR a] V1 T := by
  have e := hV.c381
  refine Mv.use (m_laysBraid (d := d) (V := V1) (b := 0) (k := k) (a := a) (n := n) h3 (by omega) (by omega) hk (by rw [e, Nat.zero_add]; exact hn) h10) (fun V2 ⟨k1, k2⟩ => ht V2 (hV.tr ⟨fun c w1 w2 => k1 c (by omega), fun j _ _ _ _ => by rw [k1 369 (by omega)]⟩) k1 (fun s hs => ?_))
  rw [k2 s hs, e, Nat.zero_add]
theorem m_compose (hb : CpBr V 43 (V 381) B) (x y s : Int) : Mi K (d + 3) mX12_compose [vR 369, vI x, vI y, vI s] V (fun z V' => FrM V V' ∧ z = if alC V x y ∧ 0 ≤ s ∧ s < V 381 (85 + x.toNat) then cmp (nBr V x.toNat) (EB V x.toNat) (EB V y.toNat) s.toNat else -1) := by
  have x2 := hb.2.1
  have x3 := hb.2.2.1
  have f0 : FrM V (upm V 369 0 0) := FrM.th 0
  refine sX12_compose x y s (m_isBr (d := d + 2) f0 (fun c => ⟨fun _ => ⟨_, rfl, f0, by rw [if_neg (fun q => c q.1.1)]⟩, fun q => absurd rfl q⟩) (fun hc => ⟨fun q => absurd q (by decide), fun _ => m_isBr (d := d + 2) f0 (fun c => ⟨fun _ => ⟨_, rfl, f0, by rw [if_neg (fun q => c q.1.2.1)]⟩, fun q => absurd rfl q⟩) (fun hc2 => ⟨fun q => absurd q (by decide), fun _ => ?_⟩)⟩))
  obtain ⟨i, rfl⟩ : ∃ i : Nat, x = i := ⟨x.toNat, by omega⟩
  obtain ⟨j, rfl⟩ : ∃ j : Nat, y = j := ⟨y.toNat, by omega⟩
  obtain ⟨n, y1, y2, y3, y4, y5, y6, y7, y8, y9⟩ := hb.at (show i < B by omega)
  obtain ⟨m, z1, z2, z3, z4, z5, z6, z7, z8, z9⟩ := hb.at (show j < B by omega)
  have hi8 : i < 8 := by omega
  have hj8 : j < 8 := by omega
  have e381 := f0.c381
  rw [ix085 hi8, ix085 hj8, ix85 hi8]
  simp only [tn]
  rw [e381, y3, z3]
  refine ⟨⟨by omega, by omega⟩, ⟨by omega, by omega⟩, fun c => ⟨_, rfl, f0, ?_⟩, fun c => ⟨⟨by omega, by omega⟩, ?_⟩⟩
  · rw [if_neg (fun q => c (by have := q.1.2.2; rw [tn, tn, y3, z3] at this; exact this))]
  · have e : m = n := by omega
    subst e
    rw [w32_id (x := (m : Int) - 1) (by omega) (by omega)]
    refine (m_within (d := d + 2) _ _ _).use ?_
    by_cases c2 : 0 ≤ s ∧ s ≤ (m : Int) - 1
    · rw [if_pos c2]
      refine ⟨fun _ => ?_, fun q => absurd q (by decide)⟩
      refine lays0 (d := d + 2) sh394 (Or.inl rfl) hi8 f0 y3 y5 (fun V2 f2 k1 k2 => lays0 (d := d + 2) sh395 (Or.inr rfl) hj8 f2 z3 y5 (fun V3 f3 j1 j2 => ?_))
      rw [f3.c381, y3]
      have k3 : ∀ s, s < m → V3 394 s = EB V i s := fun s hs => by rw [j1 394 (by decide)]; exact k2 s hs
      refine ⟨⟨by omega, by omega⟩, (m_composes (d := d) (V := V3) y5 rfl rfl (y8.congr k3) (z8.congr j2)).use (fun V4 ⟨u1, u2⟩ => ⟨⟨by omega, by omega⟩, _, rfl, f3.tr ⟨fun c w1 w2 => u1 c (by omega) (by omega) (by omega) (by omega), fun j _ _ _ _ => by rw [u1 369 (by decide) (by decide) (by decide) (by decide)]⟩, ?_⟩)⟩
      rw [if_pos ⟨⟨hc, hc2, by rw [tn, tn, y3, z3]⟩, c2.1, by omega⟩, u2 _ (by omega)]
      show _ = cmp (V 381 (85 + i)).toNat _ _ _
      rw [y3, tn]
      exact cmp_congr k3 j2 (by omega)
    · rw [if_neg c2]
      exact ⟨fun q => absurd rfl q, fun _ => ⟨_, rfl, f0, by rw [if_neg (fun q => c2 (by have := q.2; omega))]⟩⟩
theorem m_powers {V1 : Mem} {k n m : Nat} {e : Nat → Int} (hV : FrM V V1) (hk : k < 8) (hn : V 381 (85 + k) = n) (h10 : n ≤ 10) (he : EB V k = e) (hp : PermOK e n) (hm : 1 ≤ m) (hm2 : m ≤ 21) : Mi K (d + 3) mX12_powers [vR 369, vI (k : Int), vI (m : Int)] V1 (fun z V' => FrM V V' ∧ (∀ s, s < n → V' 394 s = pwE n e (m - 1) s) ∧ (2 ≤ m → (z = 0 ↔ stL n e (m - 1)))) := by
  refine sX12_powers _ _ (lays0 (d := d + 2) sh394 (Or.inl rfl) hk hV hn h10 (fun V2 f2 k1 k2 => lays0 (d := d + 2) sh395 (Or.inr rfl) hk f2 hn h10 (fun V3 f3 j1 j2 => ?_)))
  rw [he] at k2 j2
  have wqA : ∀ t : Nat, t ≤ m → 1 ≤ t → ∀ (x : Int) (V' : Mem), FrM V V' → (x = 0 ∨ x = 1) → (∀ s, s < n → V' 394 s = pwE n e (t - 1) s) → (∀ s, s < n → V' 395 s = e s) → (2 ≤ t → (x = 0 ↔ stL n e (t - 1))) → Wf K (d + 3) mX12_powers 25 [some (vR 369), some (vI (k : Int)), some (vI (m : Int)), some (vI x), some (vI (t : Int)), none] [] V' (fun r V' => ∃ z, r = some (vI z) ∧ FrM V V' ∧ (∀ s, s < n → V' 394 s = pwE n e (m - 1) s) ∧ (2 ≤ m → (z = 0 ↔ stL n e (m - 1)))) := by
    refine up_ind ?_ ?_
    · intro _ x V' g1 g2 g3 g4 g5
      exact sX12_powers_25 _ _ _ _ ⟨fun _ => ⟨g2, _, rfl, g1, g3, g5⟩, fun c => absurd (Int.le_refl _) c⟩
    · intro t ht ih h1 x V' g1 g2 g3 g4 g5
      obtain ⟨u, rfl⟩ : ∃ u, t = u + 1 := ⟨t - 1, by omega⟩
      rw [show u + 1 - 1 = u from rfl] at g3
      refine sX12_powers_25 _ _ _ _ ⟨fun c => by omega, fun _ => ?_⟩
      rw [ix85 hk, tn, g1.c381, hn]
      refine ⟨⟨by omega, by omega⟩, (m_composes (d := d) (V := V') h10 rfl rfl ((pwE_perm hp u).congr g3) (hp.congr g4)).use (fun V4 ⟨u1, u2⟩ => ?_)⟩
      have f4 : FrM V V4 := g1.tr ⟨fun c w1 w2 => u1 c (by omega) (by omega) (by omega) (by omega), fun j _ _ _ _ => by rw [u1 369 (by decide) (by decide) (by decide) (by decide)]⟩
      have u3 : ∀ s, s < n → V4 396 s = pwE n e (u + 1) s := fun s hs => by
        rw [u2 s hs]
        exact cmp_congr g3 g4 hs
      have u4 : ∀ s, s < n → V4 394 s = pwE n e u s := fun s hs => by rw [u1 394 (by decide) (by decide) (by decide) (by decide)]; exact g3 s hs
      have u5 : ∀ s, s < n → V4 395 s = e s := fun s hs => by rw [u1 395 (by decide) (by decide) (by decide) (by decide)]; exact g4 s hs
      have wqB : ∀ s, s ≤ n → ∀ (y : Int) (V5 : Mem), (∀ c, c ≠ 394 → V5 c = V4 c) → (y = 0 ∨ y = 1) → (y = 0 ↔ ∀ w, w < s → pwE n e (u + 1) w = pwE n e u w) → (∀ w, w < s → V5 394 w = pwE n e (u + 1) w) → (∀ w, s ≤ w → w < n → V5 394 w = pwE n e u w) → Wf K (d + 3) mX12_powers 45 [some (vR 369), some (vI (k : Int)), some (vI (m : Int)), some (vI y), some (vI ((u + 1 : Nat) : Int)), some (vI (s : Int))] [] V5 (fun r V' => ∃ z, r = some (vI z) ∧ FrM V V' ∧ (∀ s, s < n → V' 394 s = pwE n e (m - 1) s) ∧ (2 ≤ m → (z = 0 ↔ stL n e (m - 1)))) := by
        refine up_ind ?_ ?_
        · intro y V5 v1 v2 v3 v4 v5
          refine sX12_powers_45 _ _ _ _ _ ?_
          rw [ix85 hk, tn, v1 381 (by decide), f4.c381, hn, w32_s (i := u + 1) (by omega)]
          refine ⟨⟨by omega, by omega⟩, fun _ => ih (by omega) y V5 (f4.tr ⟨fun c w1 w2 => v1 c (by omega), fun j _ _ _ _ => by rw [v1 369 (by decide)]⟩) v2 v4 (fun s hs => by rw [v1 395 (by decide)]; exact u5 s hs) (fun _ => v3), fun c => absurd (Int.le_refl _) c⟩
        · intro s hs ih2 y V5 v1 v2 v3 v4 v5
          have e1 := v5 s (Nat.le_refl _) hs
          have e2 : V5 396 s = pwE n e (u + 1) s := by rw [v1 396 (by decide)]; exact u3 s hs
          have nx : ∀ y2 : Int, (y2 = 0 ∨ y2 = 1) → (y2 = 0 ↔ ∀ w, w < s + 1 → pwE n e (u + 1) w = pwE n e u w) → Wf K (d + 3) mX12_powers 45 [some (vR 369), some (vI (k : Int)), some (vI (m : Int)), some (vI y2), some (vI ((u + 1 : Nat) : Int)), some (vI ((s + 1 : Nat) : Int))] [] (upm V5 394 s (pwE n e (u + 1) s)) (fun r V' => ∃ z, r = some (vI z) ∧ FrM V V' ∧ (∀ s, s < n → V' 394 s = pwE n e (m - 1) s) ∧ (2 ≤ m → (z = 0 ↔ stL n e (m - 1)))) := by
            intro y2 q1 q2
            refine ih2 y2 _ (fun c q => (upm_off c q).trans (v1 c q)) q1 q2 (fun w hw => ?_) (fun w h5 h6 => by rw [upm_k (by omega)]; exact v5 w (by omega) h6)
            by_cases c : w = s
            · rw [c, upm_s]
            · rw [upm_k c]; exact v4 w (by omega)
          refine sX12_powers_45 _ _ _ _ _ ?_
          rw [ix85 hk, tn, tn, v1 381 (by decide), f4.c381, hn, w32_s (i := s) (by omega), e1, e2]
          refine ⟨⟨by omega, by omega⟩, fun c => by omega, fun _ => ⟨fun c => ⟨⟨by omega, by omega⟩, ⟨by omega, by omega⟩, nx 1 (Or.inr rfl) ⟨fun q => absurd q (by decide), fun q => ?_⟩⟩, fun c => ⟨⟨by omega, by omega⟩, ⟨by omega, by omega⟩, fun c2 => ⟨⟨by omega, by omega⟩, ⟨by omega, by omega⟩, nx 0 (Or.inl rfl) ⟨fun _ w hw => ?_, fun _ => rfl⟩⟩, fun c2 => ⟨⟨by omega, by omega⟩, ⟨by omega, by omega⟩, nx 1 (Or.inr rfl) ⟨fun q => absurd q (by decide), fun q => absurd (q s (by omega)).symm c2⟩⟩⟩⟩⟩
          · exact absurd (v3.mpr (fun w hw => q w (by omega))) c
          · by_cases q : w = s
            · rw [q]; exact c2.symm
            · exact v3.mp c w (by omega)
      exact wqB 0 (Nat.zero_le _) 0 V4 (fun _ _ => rfl) (Or.inl rfl) ⟨fun _ w hw => absurd hw (Nat.not_lt_zero w), fun _ => rfl⟩ (fun w hw => absurd hw (Nat.not_lt_zero w)) (fun w _ hw => u4 w hw)
  exact wqA 1 hm (Nat.le_refl _) 1 V3 f3 (Or.inr rfl) (fun s hs => by rw [j1 394 (by decide)]; exact k2 s hs) j2 (fun q => by omega)
theorem m_power (hb : CpBr V 43 (V 381) B) (k o s : Int) : Mi K (d + 4) mX12_power [vR 369, vI k, vI o, vI s] V (fun z V' => FrM V V' ∧ z = if stC V k s ∧ 1 ≤ o ∧ o ≤ 20 then pwE (nBr V k.toNat) (EB V k.toNat) (o.toNat - 1) s.toNat else -1) := by
  have x2 := hb.2.1
  have x3 := hb.2.2.1
  have f0 : FrM V (upm V 369 0 0) := FrM.th 0
  refine sX12_power k o s (m_isBr (d := d + 3) f0 (fun c => ⟨fun _ => ⟨_, rfl, f0, by rw [if_neg (fun q => c q.1.1)]⟩, fun q => absurd rfl q⟩) (fun hc => ⟨fun q => absurd q (by decide), fun _ => (m_within (d := d + 3) _ _ _).use ⟨fun c => ⟨_, rfl, f0, by rw [if_neg (fun q => ifz1 c q.2)]⟩, fun c1 => ?_⟩⟩))
  have c1 := ifz0 c1
  obtain ⟨i, rfl⟩ : ∃ i : Nat, k = i := ⟨k.toNat, by omega⟩
  obtain ⟨m, rfl⟩ : ∃ m : Nat, o = m := ⟨o.toNat, by omega⟩
  obtain ⟨n, y1, y2, y3, y4, y5, y6, y7, y8, y9⟩ := hb.at (show i < B by omega)
  have hi8 : i < 8 := by omega
  have e381 := f0.c381
  rw [ix85 hi8, tn, e381, y3, w32_id (x := (n : Int) - 1) (by omega) (by omega)]
  refine ⟨⟨by omega, by omega⟩, (m_within (d := d + 3) _ _ _).use ?_⟩
  by_cases c2 : 0 ≤ s ∧ s ≤ (n : Int) - 1
  · rw [if_pos c2]
    refine ⟨fun _ => ?_, fun q => absurd q (by decide)⟩
    refine (m_powers (d := d) (m := m) f0 hi8 y3 y5 rfl y8 (by omega) (by omega)).use (fun z V2 ⟨k1, k2, k3⟩ => ⟨⟨by omega, by omega⟩, _, rfl, k1, ?_⟩)
    rw [if_pos ⟨⟨hc, c2.1, by rw [tn, y3]; omega⟩, c1⟩, k2 _ (by omega), tn, tn]
    show _ = pwE (V 381 (85 + i)).toNat _ _ _
    rw [y3, tn]
  · rw [if_neg c2]
    exact ⟨fun q => absurd rfl q, fun _ => ⟨_, rfl, f0, by rw [if_neg (fun q => c2 (by have := q.1.2; rw [tn, y3] at this; omega))]⟩⟩
theorem m_settles (hb : CpBr V 43 (V 381) B) (k : Int) : Mi K (d + 4) mX12_settles [vR 369, vI k] V (fun z V' => FrM V V' ∧ ((¬ brC V k ∧ z = -1) ∨ (brC V k ∧ isStl (nBr V k.toNat) (EB V k.toNat) z))) := by
  have x2 := hb.2.1
  have x3 := hb.2.2.1
  have f0 : FrM V (upm V 369 0 0) := FrM.th 0
  refine sX12_settles k ?_
  by_cases hc : brC V k
  · obtain ⟨i, rfl⟩ : ∃ i : Nat, k = i := ⟨k.toNat, by omega⟩
    obtain ⟨n, y1, y2, y3, y4, y5, y6, y7, y8, y9⟩ := hb.at (show i < B by omega)
    have hi8 : i < 8 := by omega
    have en : nBr V i = n := by show (V 381 (85 + i)).toNat = n; rw [y3, tn]
    have wqA : ∀ t : Nat, t ≤ 21 → 1 ≤ t → ∀ V' : Mem, FrM V V' → (∀ u, 1 ≤ u → u < t → ¬ stL n (EB V i) u) → Wf K (d + 4) mX12_settles 7 [some (vR 369), some (vI (i : Int)), some (vI (t : Int))] [] V' (fun r V' => ∃ z, r = some (vI z) ∧ FrM V V' ∧ ((¬ brC V (i : Int) ∧ z = -1) ∨ (brC V (i : Int) ∧ isStl (nBr V (i : Int).toNat) (EB V (i : Int).toNat) z))) := by
      refine up_ind ?_ ?_
      · intro _ V' g1 g2
        refine sX12_settles_7 _ _ ⟨fun _ => ⟨_, rfl, g1, Or.inr ⟨hc, ?_⟩⟩, fun c => absurd (by omega) c⟩
        rw [tn, en]
        exact Or.inl ⟨rfl, fun u u1 u2 => g2 u u1 (by omega)⟩
      · intro t ht ih h1 V' g1 g2
        refine sX12_settles_7 _ _ ⟨fun c => by omega, fun _ => m_isBr (d := d + 3) g1 (fun c => absurd hc c) (fun _ => ⟨fun q => absurd q (by decide), fun _ => ?_⟩)⟩
        rw [w32_s (i := t) (by omega)]
        refine (m_powers (d := d) (m := t + 1) g1 hi8 y3 y5 rfl y8 (by omega) (by omega)).use (fun z V2 ⟨k1, k2, k3⟩ => ?_)
        have k3 := k3 (by omega)
        rw [show t + 1 - 1 = t from rfl] at k3
        refine ⟨fun c => ih (by omega) V2 k1 (fun u u1 u2 => ?_), fun c => ⟨_, rfl, k1, Or.inr ⟨hc, ?_⟩⟩⟩
        · by_cases q : u = t
          · rw [q]; exact fun w => c (k3.mpr w)
          · exact g2 u u1 (by omega)
        · rw [tn, en]
          exact Or.inr ⟨t, rfl, h1, by omega, k3.mp c, g2⟩
    exact wqA 1 (by omega) (Nat.le_refl _) _ f0 (fun u u1 u2 => by omega)
  · refine sX12_settles_7 _ _ ⟨fun c => absurd c (by decide), fun _ => m_isBr (d := d + 3) f0 (fun c => ⟨fun _ => ⟨_, rfl, f0, Or.inl ⟨hc, rfl⟩⟩, fun q => absurd rfl q⟩) (fun c => absurd c hc)⟩
theorem m_knit (hb : CpBr V 43 (V 381) B) (k i : Int) : Mi K (d + 2) mX12_knit [vR 369, vI k, vI i] V (fun z V' => FrM V V' ∧ z = if brC V k ∧ 0 ≤ i ∧ i < 45 then knR (EB V k.toNat) (nBr V k.toNat) i 0 45 (fun s => s) else -1) := by
  have x2 := hb.2.1
  have x3 := hb.2.2.1
  have f0 : FrM V (upm V 369 0 0) := FrM.th 0
  refine sX12_knit k i (m_isBr (d := d + 1) f0 (fun c => ⟨fun _ => sX12_knit_17 ⟨_, rfl, f0, by rw [if_neg (fun q => c q.1)]⟩, fun q => absurd rfl q⟩) (fun hc => ⟨fun q => absurd q (by decide), fun _ => ⟨fun hi0 => ?_, fun c => sX12_knit_17 ⟨_, rfl, f0, by rw [if_neg (fun q => c q.2.1)]⟩⟩⟩))
  obtain ⟨b, rfl⟩ : ∃ b : Nat, k = b := ⟨k.toNat, by omega⟩
  obtain ⟨n, y1, y2, y3, y4, y5, y6, y7, y8, y9⟩ := hb.at (show b < B by omega)
  have hi8 : b < 8 := by omega
  have e381 := f0.c381
  have en : nBr V b = n := by show (V 381 (85 + b)).toNat = n; rw [y3, tn]
  have hres : (if brC V (b : Int) ∧ 0 ≤ i ∧ i < 45 then knR (EB V (b : Int).toNat) (nBr V (b : Int).toNat) i 0 45 (fun s => s) else -1) = knR (EB V b) n i 0 45 (fun s => s) := by
    rw [tn, en]
    by_cases c : i < 45
    · rw [if_pos ⟨hc, hi0, c⟩]
    · rw [if_neg (fun q => c q.2.2), knR_big 45 0 _ (by omega)]
  rw [hres, ix85 hi8, tn, e381, y3]
  refine ⟨⟨by omega, by omega⟩, ?_⟩
  have eE : ∀ V' : Mem, FrM V V' → ∀ s, V' 381 (101 + 10 * b + s) = EB V b s := fun V' h s => by rw [h.c381]
  generalize EB V b = e at *
  have wqB : ∀ st : Nat, st ≤ 45 → ∀ (o : Nat → Nat) (V' : Mem), FrM V V' → OrdK e n o → (∀ s, s < n → V' 394 s = (o s : Int)) → Wf K (d + 2) mX12_knit 52 [some (vR 369), some (vI (b : Int)), some (vI i), some (vI (n : Int)), some (vI (st : Int)), none, none] [] V' (fun r V' => ∃ z, r = some (vI z) ∧ FrM V V' ∧ z = knR e n i st (45 - st) o) := by
    refine up_ind ?_ ?_
    · intro o V' g1 g2 g3
      exact sX12_knit_52 _ _ _ _ ⟨fun _ => ⟨_, rfl, g1, rfl⟩, fun c => absurd (by omega) c⟩
    · intro st hst ih o V' g1 g2 g3
      refine sX12_knit_52 _ _ _ _ ⟨fun c => by omega, fun _ => ?_⟩
      rw [show 45 - st = (45 - (st + 1)) + 1 by omega]
      unfold knR
      have wqC : ∀ q, q ≤ n - 1 → sfk (lcu e o) q (n - 1 - q) = sfk (lcu e o) 0 (n - 1) → Wf K (d + 2) mX12_knit 62 [some (vR 369), some (vI (b : Int)), some (vI i), some (vI (n : Int)), some (vI (st : Int)), some (vI (q : Int)), none] [] V' (fun r V' => ∃ z, r = some (vI z) ∧ FrM V V' ∧ z = if sfk (lcu e o) 0 (n - 1) = -1 then -1 else if (st : Int) = i then sfk (lcu e o) 0 (n - 1) else knR e n i (st + 1) (45 - (st + 1)) (swp o (sfk (lcu e o) 0 (n - 1)).toNat)) := by
        refine up_ind ?_ ?_
        · intro hq
          rw [Nat.sub_self] at hq
          refine sX12_knit_62 _ _ _ _ _ ?_
          rw [w32_s (i := n - 1) (by omega)]
          refine ⟨fun _ => sX12_knit_124 _ _ _ _ _ ?_, fun c => absurd (by omega) c⟩
          rw [w32_s (i := n - 1) (by omega)]
          exact ⟨fun c => by omega, fun _ => ⟨_, rfl, g1, by rw [← hq]; rfl⟩⟩
        · intro q hq ih2 hs
          have o1 := g2.1 q (by omega)
          have o2 := g2.1 (q + 1) (by omega)
          have hs' : sfk (lcu e o) q (n - 1 - q) = if lcu e o q = 1 then (q : Int) else sfk (lcu e o) (q + 1) (n - 1 - (q + 1)) := by
            rw [show n - 1 - q = (n - 1 - (q + 1)) + 1 by omega]; rfl
          have skip : ¬ e (o (q + 1)) < e (o q) → Wf K (d + 2) mX12_knit 118 [some (vR 369), some (vI (b : Int)), some (vI i), some (vI (n : Int)), some (vI (st : Int)), some (vI (q : Int)), none] [] V' (fun r V' => ∃ z, r = some (vI z) ∧ FrM V V' ∧ z = if sfk (lcu e o) 0 (n - 1) = -1 then -1 else if (st : Int) = i then sfk (lcu e o) 0 (n - 1) else knR e n i (st + 1) (45 - (st + 1)) (swp o (sfk (lcu e o) 0 (n - 1)).toNat)) := by
            intro c
            refine sX12_knit_118 _ _ _ _ _ ?_
            rw [w32_s (i := q) (by omega)]
            refine ih2 ?_
            rw [← hs, hs', if_neg (fun w => c (lcu_1.mp w))]
          refine sX12_knit_62 _ _ _ _ _ ?_
          rw [w32_s (i := q) (by omega), tn, tn, g3 q (by omega), g3 (q + 1) (by omega), ix101 hi8 (show o q < 10 by omega), ix101 hi8 (show o (q + 1) < 10 by omega), tn, tn, eE V' g1 (o q), eE V' g1 (o (q + 1))]
          refine ⟨fun c => by omega, fun _ => ⟨⟨by omega, by omega⟩, ⟨by omega, by omega⟩, fun c => skip ?_, fun c => ⟨⟨by omega, by omega⟩, ⟨by omega, by omega⟩, ⟨by omega, by omega⟩, ⟨by omega, by omega⟩, fun c2 => ?_, fun c2 => skip c2⟩⟩⟩
          · rcases Nat.lt_or_ge (o (q + 1)) (o q) with w | w
            · have := g2.2 q (q + 1) (by omega) (by omega) w
              omega
            · rw [show o (q + 1) = o q by omega]; omega
          · rw [if_pos (lcu_1.mpr c2)] at hs'
            rw [← hs, hs']
            refine sX12_knit_124 _ _ _ _ _ ?_
            rw [w32_s (i := q) (by omega), if_neg (by omega), tn, tn, g3 q (by omega), g3 (q + 1) (by omega), w32_s (i := st) (by omega)]
            refine ⟨fun _ => ⟨fun c3 => ⟨⟨by omega, by omega⟩, ⟨by omega, by omega⟩, ⟨by omega, by omega⟩, ⟨by omega, by omega⟩, ?_⟩, fun c3 => ⟨_, rfl, g1, by rw [if_pos c3]⟩⟩, fun c3 => by omega⟩
            rw [if_neg c3]
            refine ih (swp o q) _ (g1.tr ⟨fun c w1 w2 => by rw [upm_off c (by omega), upm_off c (by omega)], fun j _ _ _ _ => by rw [upm_off 369 (by decide), upm_off 369 (by decide)]⟩) (g2.sw (by omega) c2) (fun s hs => ?_)
            unfold swp
            by_cases w1 : s = q
            · rw [w1, if_pos rfl, upm_k (by omega), upm_s]
            · rw [if_neg w1]
              by_cases w2 : s = q + 1
              · rw [if_pos w2, w2, upm_s]
              · rw [if_neg w2, upm_k w2, upm_k w1]; exact g3 s hs
      exact wqC 0 (Nat.zero_le _) rfl
  have wqA : ∀ s, s ≤ n → ∀ V' : Mem, FrM V V' → (∀ t, t < s → V' 394 t = (t : Int)) → Wf K (d + 2) mX12_knit 28 [some (vR 369), some (vI (b : Int)), some (vI i), some (vI (n : Int)), some (vI (s : Int)), none, none] [] V' (fun r V' => ∃ z, r = some (vI z) ∧ FrM V V' ∧ z = knR e n i 0 45 (fun s => s)) := by
    refine up_ind ?_ ?_
    · intro V' g1 g2
      refine sX12_knit_28 _ _ _ _ ⟨fun _ => ?_, fun c => absurd (Int.le_refl _) c⟩
      exact wqB 0 (by omega) (fun s => s) V' g1 OrdK.id g2
    · intro s hs ih V' g1 g2
      refine sX12_knit_28 _ _ _ _ ⟨fun c => by omega, fun _ => ⟨⟨by omega, by omega⟩, ?_⟩⟩
      rw [w32_s (i := s) (by omega), tn]
      refine ih _ (g1.tr ⟨fun c w1 w2 => by rw [upm_off c (by omega)], fun j _ _ _ _ => by rw [upm_off 369 (by decide)]⟩) (fun t ht => ?_)
      by_cases c : t = s
      · rw [c, upm_s]
      · rw [upm_k c]; exact g2 t (by omega)
  exact wqA 0 (Nat.zero_le _) _ f0 (fun t ht => absurd ht (Nat.not_lt_zero t))
theorem m_below (hb : CpBr V 43 (V 381) B) (x y : Int) : Mi K (d + 2) mX12_below [vR 369, vI x, vI y] V (fun z V' => FrM V V' ∧ (z = 0 ∨ z = 1) ∧ (z = 1 ↔ alC V x y ∧ ∀ i k, i ≤ nBr V x.toNat → k ≤ nBr V x.toNat → ctn (EB V x.toNat) (nBr V x.toNat) i k ≤ ctn (EB V y.toNat) (nBr V x.toNat) i k)) := by
  have x2 := hb.2.1
  have x3 := hb.2.2.1
  have f0 : FrM V (upm V 369 0 0) := FrM.th 0
  have no : ¬ alC V x y → ∃ z, some (vI 0) = some (vI z) ∧ FrM V (upm V 369 0 0) ∧ (z = 0 ∨ z = 1) ∧ (z = 1 ↔ alC V x y ∧ ∀ i k, i ≤ nBr V x.toNat → k ≤ nBr V x.toNat → ctn (EB V x.toNat) (nBr V x.toNat) i k ≤ ctn (EB V y.toNat) (nBr V x.toNat) i k) := fun c => ⟨_, rfl, f0, Or.inl rfl, ⟨fun q => absurd q (by decide), fun q => absurd q.1 c⟩⟩
  refine sX12_below x y (m_isBr (d := d + 1) f0 (fun c => ⟨fun _ => no (fun q => c q.1), fun q => absurd rfl q⟩) (fun hc => ⟨fun q => absurd q (by decide), fun _ => m_isBr (d := d + 1) f0 (fun c => ⟨fun _ => no (fun q => c q.2.1), fun q => absurd rfl q⟩) (fun hc2 => ⟨fun q => absurd q (by decide), fun _ => ?_⟩)⟩))
  obtain ⟨i, rfl⟩ : ∃ i : Nat, x = i := ⟨x.toNat, by omega⟩
  obtain ⟨j, rfl⟩ : ∃ j : Nat, y = j := ⟨y.toNat, by omega⟩
  obtain ⟨n, y1, y2, y3, y4, y5, y6, y7, y8, y9⟩ := hb.at (show i < B by omega)
  obtain ⟨m, z1, z2, z3, z4, z5, z6, z7, z8, z9⟩ := hb.at (show j < B by omega)
  have hi8 : i < 8 := by omega
  have hj8 : j < 8 := by omega
  have e381 := f0.c381
  have en : nBr V i = n := by show (V 381 (85 + i)).toNat = n; rw [y3, tn]
  rw [ix085 hi8, ix085 hj8, ix85 hi8]
  simp only [tn] at no ⊢
  rw [e381, y3, z3]
  refine ⟨⟨by omega, by omega⟩, ⟨by omega, by omega⟩, fun c => no (fun q => c (by have := q.2.2; rw [tn, tn, y3, z3] at this; exact this)), fun c => ⟨⟨by omega, by omega⟩, ?_⟩⟩
  have e : m = n := by omega
  subst e
  have hal : alC V (i : Int) (j : Int) := ⟨hc, hc2, by rw [tn, tn, y3, z3]⟩
  rw [en]
  refine lays0 (d := d + 1) sh394 (Or.inl rfl) hi8 f0 y3 y5 (fun V2 f2 k1 k2 => lays0 (d := d + 1) sh395 (Or.inr rfl) hj8 f2 z3 y5 (fun V3 f3 j1 j2 => ?_))
  have k3 : ∀ s, s < m → V3 394 s = EB V i s := fun s hs => by rw [j1 394 (by decide)]; exact k2 s hs
  have c1 : ∀ p k, p ≤ m → ctn (V3 394) m p k = ctn (EB V i) m p k := fun p k hp => ctn_congr k3 hp
  have c2 : ∀ p k, p ≤ m → ctn (V3 395) m p k = ctn (EB V j) m p k := fun p k hp => ctn_congr j2 hp
  generalize ctn (EB V i) m = A at *
  generalize ctn (EB V j) m = Bt at *
  have wqA : ∀ p, p ≤ m + 1 → ∀ x4 : Int, ((x4 = 1 ∧ ∀ a b, a < p → b ≤ m → A a b ≤ Bt a b) ∨ (x4 = 0 ∧ ∃ a b, a ≤ m ∧ b ≤ m ∧ ¬ A a b ≤ Bt a b)) → Wf K (d + 2) mX12_below 65 [some (vR 369), none, none, some (vI (m : Int)), some (vI x4), some (vI (p : Int)), none] [] V3 (fun r V' => ∃ z, r = some (vI z) ∧ FrM V V' ∧ (z = 0 ∨ z = 1) ∧ (z = 1 ↔ alC V (i : Int) (j : Int) ∧ ∀ i k, i ≤ m → k ≤ m → A i k ≤ Bt i k)) := by
    refine up_ind ?_ ?_
    · intro x4 hx
      refine sX12_below_65 _ _ _ ⟨fun _ => ?_, fun c => absurd (by omega) c⟩
      rcases hx with ⟨rfl, h⟩ | ⟨rfl, a, b, h1, h2, h⟩
      · exact ⟨Or.inr rfl, _, rfl, f3, Or.inr rfl, ⟨fun _ => ⟨hal, fun a b q1 q2 => h a b (by omega) q2⟩, fun _ => rfl⟩⟩
      · exact ⟨Or.inl rfl, _, rfl, f3, Or.inl rfl, ⟨fun q => absurd q (by decide), fun q => absurd (q.2 a b h1 h2) h⟩⟩
    · intro p hp ih x4 hx
      refine sX12_below_65 _ _ _ ⟨fun c => by omega, fun _ => ?_⟩
      have wqB : ∀ q, q ≤ m + 1 → ∀ x4 : Int, ((x4 = 1 ∧ (∀ a b, a < p → b ≤ m → A a b ≤ Bt a b) ∧ ∀ b, b < q → A p b ≤ Bt p b) ∨ (x4 = 0 ∧ ∃ a b, a ≤ m ∧ b ≤ m ∧ ¬ A a b ≤ Bt a b)) → Wf K (d + 2) mX12_below 74 [some (vR 369), none, none, some (vI (m : Int)), some (vI x4), some (vI (p : Int)), some (vI (q : Int))] [] V3 (fun r V' => ∃ z, r = some (vI z) ∧ FrM V V' ∧ (z = 0 ∨ z = 1) ∧ (z = 1 ↔ alC V (i : Int) (j : Int) ∧ ∀ i k, i ≤ m → k ≤ m → A i k ≤ Bt i k)) := by
        refine up_ind ?_ ?_
        · intro x4 hx
          refine sX12_below_74 _ _ _ _ ⟨fun _ => ?_, fun c => absurd (by omega) c⟩
          rw [w32_s (i := p) (by omega)]
          refine ih x4 ?_
          rcases hx with ⟨rfl, h, h2⟩ | h
          · refine Or.inl ⟨rfl, fun a b q1 q2 => ?_⟩
            by_cases w : a = p
            · rw [w]; exact h2 b (by omega)
            · exact h a b (by omega) q2
          · exact Or.inr h
        · intro q hq ih2 x4 hx
          refine sX12_below_74 _ _ _ _ ⟨fun c => by omega, fun _ => ?_⟩
          rw [w32_s (i := q) (by omega)]
          rcases hx with ⟨rfl, h, h2⟩ | ⟨rfl, h⟩
          · refine ⟨fun w => absurd w (by decide), fun _ => ?_⟩
            refine (m_countOf (d := d + 1) (V := V3) (n := m) sh394 (by decide) y5 y5 (by omega)).use ((m_countOf (d := d + 1) (V := V3) (n := m) sh395 (by decide) y5 y5 (by omega)).use ?_)
            rw [c1 p q (by omega), c2 p q (by omega)]
            refine ⟨fun w => ih2 0 (Or.inr ⟨rfl, p, q, by omega, by omega, by omega⟩), fun w => ih2 1 (Or.inl ⟨rfl, h, fun b hb => ?_⟩)⟩
            by_cases w2 : b = q
            · rw [w2]; omega
            · exact h2 b (by omega)
          · exact ⟨fun _ => ih2 0 (Or.inr ⟨rfl, h⟩), fun w => absurd rfl w⟩
      refine wqB 0 (by omega) x4 ?_
      rcases hx with ⟨rfl, h⟩ | h
      · exact Or.inl ⟨rfl, h, fun b hb => absurd hb (Nat.not_lt_zero b)⟩
      · exact Or.inr h
  exact wqA 0 (by omega) 1 (Or.inl ⟨rfl, fun a b h => absurd h (Nat.not_lt_zero a)⟩)
end MBQ
