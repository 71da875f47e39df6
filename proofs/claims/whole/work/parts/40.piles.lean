/-! ===== piles: both sides ===== -/
def pgo (kd w : Int) (T : Nat → Int) : Nat → Nat → Nat
  | k, 0 => k
  | k, f + 1 => if fol kd w (T k) then pgo kd w T (k + 1) f else k
theorem pgo_r {kd w : Int} {T : Nat → Int} : ∀ f k, k ≤ pgo kd w T k f ∧ pgo kd w T k f ≤ k + f
  | 0, k => ⟨Nat.le_refl _, Nat.le_refl _⟩
  | f + 1, k => by
    have ih := pgo_r (kd := kd) (w := w) (T := T) f (k + 1)
    unfold pgo
    split <;> omega
theorem pgo_congr {kd w : Int} {T T2 : Nat → Int} : ∀ f k, (∀ j, k ≤ j → j < k + f → T j = T2 j) → pgo kd w T k f = pgo kd w T2 k f
  | 0, _, _ => rfl
  | f + 1, k, h => by
    unfold pgo
    rw [h k (Nat.le_refl _) (by omega), pgo_congr f (k + 1) (fun j a b => h j (by omega) (by omega))]
theorem pgo_t {kd w : Int} {T : Nat → Int} {k f : Nat} (h : fol kd w (T k)) : pgo kd w T k (f + 1) = pgo kd w T (k + 1) f := if_pos h
theorem pgo_f {kd w : Int} {T : Nat → Int} {k f : Nat} (h : ¬ fol kd w (T k)) : pgo kd w T k (f + 1) = k := if_neg h
def pst (kd : Int) (W : Nat → Int) (lo : Nat) : Nat → (Nat → Int) × Nat
  | 0 => (fun _ => 0, 0)
  | c + 1 => (fun j => if j = pgo kd (W (lo + c)) (pst kd W lo c).1 0 (pst kd W lo c).2 then W (lo + c) else (pst kd W lo c).1 j, if pgo kd (W (lo + c)) (pst kd W lo c).1 0 (pst kd W lo c).2 = (pst kd W lo c).2 then (pst kd W lo c).2 + 1 else (pst kd W lo c).2)
theorem pst_le {kd : Int} {W : Nat → Int} {lo : Nat} : ∀ c, (pst kd W lo c).2 ≤ c
  | 0 => Nat.le_refl _
  | c + 1 => by
    have ih := pst_le (kd := kd) (W := W) (lo := lo) c
    have e : (pst kd W lo (c + 1)).2 = if pgo kd (W (lo + c)) (pst kd W lo c).1 0 (pst kd W lo c).2 = (pst kd W lo c).2 then (pst kd W lo c).2 + 1 else (pst kd W lo c).2 := rfl
    rw [e]
    split <;> omega
def pilA (kd : Int) (W : Nat → Int) (lo hi : Nat) (x : Int) : Int := if x = -1 then ((pst kd W lo (hi - lo)).2 : Int) else ((pgo kd (W x.toNat) (pst kd W lo (x.toNat - lo)).1 0 (pst kd W lo (x.toNat - lo)).2 : Nat) : Int)
section CPI
variable {K : KK} {d : Nat} {V : Mem} {P : Nat → Int × Int} {n R : Nat}
theorem c_loadR {a : Nat} (ha : a = 146 ∨ a = 151) (hI : Icore P n R V) {i m : Nat} (hi : i < R) (hm : V 381 i = m) : Mv K (d + 2) mX1_load [vR a, vR (49 + 2 * i), vR 135] V (fun V1 => FrX V V1 ∧ (∀ c, c ≠ a → c ≠ a + 1 → c ≠ 137 → V1 c = V c) ∧ V1 a 4 = m ∧ V1 a 6 = V 375 (3 + 22 * i) ∧ ∀ p, p < m → V1 (a + 1) p = wR P n V i p) := by
  obtain ⟨hx, hr0, hR, hC, hlx, hlm, hw⟩ := id hI
  obtain ⟨m', m1, m2, m3, m4, m5, m6, m7, m8⟩ := hI.row hi
  have : m' = m := by omega
  subst this
  have hrow : IsRow (49 + 2 * i) := by
    have := obj44 (k := (i : Int)) ⟨by omega, by omega⟩
    rw [tn] at this
    exact this
  have isa : IsChains a := by
    rcases ha with rfl | rfl
    · exact is146
    · exact is151
  refine (c_load (d := d) isa hrow is135 hlx hw m1 m4 (by omega) (by omega) (by omega)).use (fun V1 ⟨k1, k2, k3, k4, k5⟩ => ⟨fun c hc => k1 c (by omega) (by omega) (by omega), k1, k3, by rw [k4, m6], fun p hp => ?_⟩)
  rw [k5 p hp, show 49 + 2 * i + 1 = 50 + 2 * i by omega, m5 p hp, m6]
  unfold wR
  rw [m2]
theorem m_laysR {V1 : Mem} (hI : Icore P n R V) (hV : FrM V V1) {i m : Nat} (hi : i < R) (hm : V 381 i = m) : Mv K (d + 3) mX12_laysRow [vR 369, vI (i : Int)] V1 (fun V3 => FrM V V3 ∧ (∀ c, c ≠ 369 → c ≠ 379 → c ≠ 380 → c ≠ 383 → V3 c = V1 c) ∧ V3 369 22 = V 375 (3 + 22 * i) ∧ V3 369 23 = m ∧ ∀ p, p < m → V3 383 p = wR P n V i p) := by
  have hI1 := hI.frM hV
  obtain ⟨m', m1, m2, m3, m4, m5, m6, m7, m8⟩ := hI.row hi
  have : m' = m := by omega
  subst this
  have h4 : R ≤ 4 := hI.2.2.1
  refine (m_laysRow (d := d) (V := V1) hI1.2.2.2.2.2.1 hI1.2.2.2.2.2.2 (by omega) (by rw [hV.c381]; exact hm) m4).use (fun V3 ⟨k1, k2, k3, k4, k5⟩ => ⟨hV.tr ⟨fun c q1 q2 => k1 c q2 (by omega) (by omega) (by omega), fun j _ q2 q3 _ => k2 j q2 q3⟩, k1, by rw [k3, hV.c375], k4, fun p hp => ?_⟩)
  rw [k5 p hp, hV.c375, hV.c381]
  unfold wR
  rw [hm]
theorem c_pile {a lo hi : Nat} {kd : Int} {W : Nat → Int} (h0 : IsChains a) (ha : a = 146 ∨ a = 151) (hkd : V a 6 = kd) (hk : 0 ≤ kd ∧ kd ≤ 3) (hW : ∀ p, lo ≤ p → p < hi → V (a + 1) p = W p) (hlh : lo ≤ hi) (h20 : hi ≤ 20) (x : Int) (hx : x = -1 ∨ ((lo : Int) ≤ x ∧ x < hi)) : Mi K (d + 1) mX8_pile [vR 180, vR a, vI (lo : Int), vI (hi : Int), vI x] V (fun z V' => (∀ c, c ≠ 203 → V' c = V c) ∧ z = pilA kd W lo hi x) := by
  refine sX8_pile a _ _ _ h0 ?_
  have wqA : ∀ p, p ≤ hi → lo ≤ p → (x = -1 ∨ (p : Int) ≤ x) → ∀ V' : Mem, (∀ c, c ≠ 203 → V' c = V c) → (∀ j, j < (pst kd W lo (p - lo)).2 → V' 203 j = (pst kd W lo (p - lo)).1 j) → Wf K (d + 1) mX8_pile 6 [some (vR 180), some (vR a), none, some (vI (hi : Int)), some (vI x), some (vI ((pst kd W lo (p - lo)).2 : Int)), some (vI (p : Int)), none, none] [] V' (fun r V' => ∃ z, r = some (vI z) ∧ ((∀ c, c ≠ 203 → V' c = V c) ∧ z = pilA kd W lo hi x)) := by
    refine up_ind ?_ ?_
    · intro _ hx2 V' hV hT
      refine sX8_pile_6 a _ _ _ _ h0 ⟨fun _ => ⟨_, rfl, hV, ?_⟩, fun c => absurd (Int.le_refl _) c⟩
      unfold pilA
      rw [if_pos (by omega)]
    · intro p hp ih hl hx2 V' hV hT
      refine sX8_pile_6 a _ _ _ _ h0 ⟨fun c => by omega, fun _ => ⟨⟨by omega, by omega⟩, ?_⟩⟩
      rw [tn, hV (a + 1) (by omega), hW p hl hp]
      have hle := pst_le (kd := kd) (W := W) (lo := lo) (p - lo)
      have es : p + 1 - lo = (p - lo) + 1 := by omega
      have el : lo + (p - lo) = p := by omega
      have e1 : (pst kd W lo (p + 1 - lo)).1 = fun j => if j = pgo kd (W p) (pst kd W lo (p - lo)).1 0 (pst kd W lo (p - lo)).2 then W p else (pst kd W lo (p - lo)).1 j := by
        rw [es]; show (fun j => if j = pgo kd (W (lo + (p - lo))) _ _ _ then W (lo + (p - lo)) else _) = _; rw [el]
      have e2 : (pst kd W lo (p + 1 - lo)).2 = if pgo kd (W p) (pst kd W lo (p - lo)).1 0 (pst kd W lo (p - lo)).2 = (pst kd W lo (p - lo)).2 then (pst kd W lo (p - lo)).2 + 1 else (pst kd W lo (p - lo)).2 := by
        rw [es]; show (if pgo kd (W (lo + (p - lo))) _ _ _ = _ then _ else _) = _; rw [el]
      have eA : x = (p : Int) → pilA kd W lo hi x = ((pgo kd (W p) (pst kd W lo (p - lo)).1 0 (pst kd W lo (p - lo)).2 : Nat) : Int) := fun c => by
        unfold pilA
        rw [if_neg (by omega), c, tn]
      have ih2 := ih
      generalize hs : pst kd W lo (p - lo) = s at *
      have hg := pgo_r (kd := kd) (w := W p) (T := s.1) s.2 0
      have wqF : ∀ V2 : Mem, (∀ c, c ≠ 203 → V2 c = V c) → (∀ j, j < s.2 → V2 203 j = s.1 j) → ∀ k : Nat, k = pgo kd (W p) s.1 0 s.2 → ((¬ (p : Int) = x → ((20 ≤ (k : Int) → Wf K (d + 1) mX8_pile 6 [some (vR 180), some (vR a), none, some (vI (hi : Int)), some (vI x), some (vI (s.2 : Int)), some (vI (w32 ((p : Int) + 1))), none, none] [] V2 (fun r V' => ∃ z, r = some (vI z) ∧ ((∀ c, c ≠ 203 → V' c = V c) ∧ z = pilA kd W lo hi x))) ∧ (¬ (20 ≤ (k : Int)) → (((0 : Int) ≤ (k : Int) ∧ (k : Int) < (20 : Nat)) ∧ Wf K (d + 1) mX8_pile 6 [some (vR 180), some (vR a), none, some (vI (hi : Int)), some (vI x), some (vI (max (s.2 : Int) (w32 ((k : Int) + 1)))), some (vI (w32 ((p : Int) + 1))), none, none] [] (upm V2 203 (Int.toNat (k : Int)) (W p)) (fun r V' => ∃ z, r = some (vI z) ∧ ((∀ c, c ≠ 203 → V' c = V c) ∧ z = pilA kd W lo hi x)))))) ∧ ((p : Int) = x → ∃ z, some (vI (k : Int)) = some (vI z) ∧ ((∀ c, c ≠ 203 → V2 c = V c) ∧ z = pilA kd W lo hi x))) := by
        intro V2 g1 g2 k hk2
        refine ⟨fun c => ⟨fun c2 => by omega, fun c2 => ⟨⟨by omega, by omega⟩, ?_⟩⟩, fun c => ⟨_, rfl, g1, by rw [eA c.symm, hk2]⟩⟩
        rw [tn, w32_s (i := p) (by omega), w32_s (i := k) (by omega)]
        have em : max (s.2 : Int) ((k + 1 : Nat) : Int) = ((pst kd W lo (p + 1 - lo)).2 : Int) := by
          rw [e2, ← hk2]
          split <;> omega
        rw [em]
        refine ih2 (by omega) (by omega) _ (fun c hc => (upm_off c hc).trans (g1 c hc)) (fun j hj => ?_)
        rw [e1]
        show _ = if j = _ then W p else s.1 j
        rw [← hk2]
        by_cases q : j = k
        · subst q; rw [upm_s, if_pos rfl]
        · rw [upm_k q, if_neg q]
          refine g2 j ?_
          rw [e2, ← hk2] at hj
          split at hj <;> omega
      have wqB : ∀ k, k ≤ s.2 → pgo kd (W p) s.1 k (s.2 - k) = pgo kd (W p) s.1 0 s.2 → Wf K (d + 1) mX8_pile 24 [some (vR 180), some (vR a), none, some (vI (hi : Int)), some (vI x), some (vI (s.2 : Int)), some (vI (p : Int)), some (vI (W p)), some (vI (k : Int))] [] V' (fun r V' => ∃ z, r = some (vI z) ∧ ((∀ c, c ≠ 203 → V' c = V c) ∧ z = pilA kd W lo hi x)) := by
        refine up_ind ?_ ?_
        · intro hq
          rw [Nat.sub_self] at hq
          exact sX8_pile_24 a _ _ _ _ _ _ h0 ⟨fun _ => wqF V' hV hT s.2 hq, fun c => absurd (Int.le_refl _) c⟩
        · intro k hk2 ih3 hq
          refine sX8_pile_24 a _ _ _ _ _ _ h0 ⟨fun c => by omega, fun _ => ⟨⟨by omega, by omega⟩, ?_⟩⟩
          rw [tn, hT k hk2]
          refine (c_mayFollow (d := d) h0 (by rw [hV a (by omega), hkd]; exact hk) _ _).use ?_
          rw [hV a (by omega), hkd]
          rw [show s.2 - k = (s.2 - (k + 1)) + 1 by omega] at hq
          by_cases c : fol kd (W p) (s.1 k)
          · rw [if_pos c]
            rw [pgo_t c] at hq
            refine ⟨fun q => absurd q (by decide), fun _ => ?_⟩
            rw [w32_s (by omega)]
            exact ih3 hq
          · rw [if_neg c]
            rw [pgo_f c] at hq
            exact ⟨fun _ => wqF V' hV hT k hq, fun q => absurd rfl q⟩
      exact wqB 0 (Nat.zero_le _) rfl
  have := wqA lo hlh (Nat.le_refl _) (by omega) V (fun _ _ => rfl) (by rw [Nat.sub_self]; exact fun j hj => absurd hj (Nat.not_lt_zero j))
  rw [Nat.sub_self] at this
  exact this
theorem x_piles (hI : Icore P n R V) (r f t x : Int) : Mi K (d + 5) mX11_piles [vR 0, vI r, vI f, vI t, vI x] V (fun z V' => FrX V V' ∧ z = if winC V r f t ∧ (x = -1 ∨ (f ≤ x ∧ x < t)) then pilA (V 375 (3 + 22 * r.toNat)) (wR P n V r.toNat) f.toNat t.toNat x else -2) := by
  obtain ⟨hx, hr0, hR, hC, hlx, hlm, hw⟩ := id hI
  refine sX11_piles r f t x ⟨fun h => ⟨_, rfl, FrX.rf, by rw [if_neg (fun q => by have := q.1.1; omega)]⟩, fun h => ⟨fun h2 => ⟨_, rfl, FrX.rf, by rw [hx] at h2; rw [if_neg (fun q => by have := q.1.2.1; omega)]⟩, fun h2 => ?_⟩⟩
  obtain ⟨i, rfl⟩ : ∃ i : Nat, r = i := ⟨r.toNat, by omega⟩
  have hi : i < R := by omega
  obtain ⟨m, m1, m2, m3, m4, m5, m6, m7, m8⟩ := hI.row hi
  have hrow : IsRow (49 + 2 * i) := by
    have := obj44 (k := (i : Int)) ⟨by omega, by omega⟩
    rw [tn] at this
    exact this
  simp only [tn]
  rw [m1]
  have hwin : winC V i f t ↔ (0 ≤ f ∧ f ≤ t ∧ t ≤ m) := by
    unfold winC
    rw [tn, m2]
    omega
  have go : (0 ≤ f ∧ f ≤ t ∧ t ≤ m) → (x = -1 ∨ (f ≤ x ∧ x < t)) → Wf K (d + 5) mX11_piles 45 [some (vR 0), none, some (vI f), some (vI t), some (vI x), some (vR (49 + 2 * i))] [] V (fun r V' => ∃ z, r = some (vI z) ∧ FrX V V' ∧ z = if winC V i f t ∧ (x = -1 ∨ (f ≤ x ∧ x < t)) then pilA (V 375 (3 + 22 * i)) (wR P n V i) f.toNat t.toNat x else -2) := by
    intro hc1 hc2
    obtain ⟨lo, rfl⟩ : ∃ lo : Nat, f = lo := ⟨f.toNat, by omega⟩
    obtain ⟨hi', rfl⟩ : ∃ hi' : Nat, t = hi' := ⟨t.toNat, by omega⟩
    refine sX11_piles_45 _ _ _ _ hrow ((c_loadR (d := d + 2) (Or.inl rfl) hI hi m2).use (fun V1 ⟨k1, k2, k3, k4, k5⟩ => ?_))
    refine (c_pile (d := d + 3) (V := V1) is146 (Or.inl rfl) k4 ⟨m7, m8⟩ (W := wR P n V i) (fun p _ q2 => k5 p (by omega)) (by omega) (by omega) x hc2).use (fun z V2 ⟨g1, g2⟩ => ⟨_, rfl, fun c hc => ?_, ?_⟩)
    · rw [g1 c (by omega), k1 c hc]
    · rw [if_pos ⟨hwin.mpr hc1, hc2⟩, tn, tn, g2]
  have no : ¬ ((0 ≤ f ∧ f ≤ t ∧ t ≤ m) ∧ (x = -1 ∨ (f ≤ x ∧ x < t))) → ∃ z, some (vI (-2)) = some (vI z) ∧ FrX V V ∧ z = if winC V i f t ∧ (x = -1 ∨ (f ≤ x ∧ x < t)) then pilA (V 375 (3 + 22 * i)) (wR P n V i) f.toNat t.toNat x else -2 := fun c => ⟨_, rfl, FrX.rf, by rw [if_neg (fun q => c ⟨hwin.mp q.1, q.2⟩)]⟩
  refine ⟨⟨by omega, by omega⟩, fun h3 => no (by omega), fun h3 => ⟨fun h4 => no (by omega), fun h4 => ⟨fun h5 => no (by omega), fun h5 => ⟨fun h6 => go (by omega) (Or.inl h6), fun h6 => ⟨fun h7 => sX11_piles_42 (no (by omega)), fun h7 => ⟨fun h8 => go (by omega) (by omega), fun h8 => sX11_piles_42 (no (by omega))⟩⟩⟩⟩⟩⟩
theorem m_piles (hI : Icore P n R V) (r f t x : Int) : Mi K (d + 5) mX12_piles [vR 369, vI r, vI f, vI t, vI x] V (fun z V' => FrM V V' ∧ z = if winC V r f t ∧ (x = -1 ∨ (f ≤ x ∧ x < t)) then pilA (V 375 (3 + 22 * r.toNat)) (wR P n V r.toNat) f.toNat t.toNat x else -2) := by
  refine sX12_piles r f t x (m_window (d := d + 2) hI r f t (fun hc V1 hV => ⟨fun _ => sX12_piles_33 ⟨_, rfl, hV, by rw [if_neg (fun q => hc q.1)]⟩, fun c => absurd rfl c⟩) ?_)
  rintro i lo hi m rfl rfl rfl b1 b2 b3 b4 b5 hc V1 hV
  obtain ⟨m', -, -, -, -, -, -, m7, m8⟩ := hI.row b1
  refine ⟨fun c => absurd c (by decide), fun _ => ?_⟩
  simp only [tn]
  have go : (x = -1 ∨ ((lo : Int) ≤ x ∧ x < hi)) → Wf K (d + 5) mX12_piles 36 [some (vR 369), some (vI (i : Int)), some (vI (lo : Int)), some (vI (hi : Int)), some (vI x), none, none, none] [] V1 (fun rr V' => ∃ z, rr = some (vI z) ∧ FrM V V' ∧ z = if winC V i lo hi ∧ (x = -1 ∨ ((lo : Int) ≤ x ∧ x < hi)) then pilA (V 375 (3 + 22 * i)) (wR P n V i) lo hi x else -2) := by
    intro hx2
    rw [if_pos ⟨hc, hx2⟩]
    refine sX12_piles_36 _ _ _ _ ((m_laysR (d := d + 1) hI hV b1 b5).use (fun V3 ⟨k1, k2, k3, k4, k5⟩ => ?_))
    generalize hkd : V 375 (3 + 22 * i) = kd at *
    have hW : ∀ p, p < m → V3 383 p = wR P n V i p := k5
    generalize wR P n V i = W at *
    have wqA : ∀ p, p ≤ hi → lo ≤ p → ∀ V' : Mem, (∀ c, c ≠ 388 → c ≠ 389 → V' c = V3 c) → (∀ j, j < (pst kd W lo (p - lo)).2 → V' 388 j = (pst kd W lo (p - lo)).1 j) → (∀ q, lo ≤ q → q < p → V' 389 q = ((pgo kd (W q) (pst kd W lo (q - lo)).1 0 (pst kd W lo (q - lo)).2 : Nat) : Int)) → Wf K (d + 5) mX12_piles 47 [some (vR 369), none, none, some (vI (hi : Int)), some (vI x), some (vI ((pst kd W lo (p - lo)).2 : Int)), some (vI (p : Int)), none] [] V' (fun rr V' => ∃ z, rr = some (vI z) ∧ FrM V V' ∧ z = pilA kd W lo hi x) := by
      refine up_ind ?_ ?_
      · intro _ V' hV2 hT hP
        have fr : FrM V V' := k1.tr ⟨fun c q1 q2 => hV2 c (by omega) (by omega), fun j _ _ _ _ => by rw [hV2 369 (by omega) (by omega)]⟩
        refine sX12_piles_47 _ _ _ _ ⟨fun _ => ⟨fun c => ⟨⟨by omega, by omega⟩, _, rfl, fr, ?_⟩, fun c => ⟨_, rfl, fr, ?_⟩⟩, fun c => absurd (Int.le_refl _) c⟩
        · rw [hP x.toNat (by omega) (by omega)]
          unfold pilA
          rw [if_neg (by omega)]
        · unfold pilA
          rw [if_pos (by omega)]
      · intro p hp ih hl V' hV2 hT hP
        refine sX12_piles_47 _ _ _ _ ⟨fun c => by omega, fun _ => ?_⟩
        have hle := pst_le (kd := kd) (W := W) (lo := lo) (p - lo)
        have es : p + 1 - lo = (p - lo) + 1 := by omega
        have el : lo + (p - lo) = p := by omega
        have e1 : (pst kd W lo (p + 1 - lo)).1 = fun j => if j = pgo kd (W p) (pst kd W lo (p - lo)).1 0 (pst kd W lo (p - lo)).2 then W p else (pst kd W lo (p - lo)).1 j := by
          rw [es]; show (fun j => if j = pgo kd (W (lo + (p - lo))) _ _ _ then W (lo + (p - lo)) else _) = _; rw [el]
        have e2 : (pst kd W lo (p + 1 - lo)).2 = if pgo kd (W p) (pst kd W lo (p - lo)).1 0 (pst kd W lo (p - lo)).2 = (pst kd W lo (p - lo)).2 then (pst kd W lo (p - lo)).2 + 1 else (pst kd W lo (p - lo)).2 := by
          rw [es]; show (if pgo kd (W (lo + (p - lo))) _ _ _ = _ then _ else _) = _; rw [el]
        have ih2 := ih
        have e3 := fun (V' : Mem) (h : V' 389 p = ((pgo kd (W p) (pst kd W lo (p - lo)).1 0 (pst kd W lo (p - lo)).2 : Nat) : Int)) => h
        generalize hs : pst kd W lo (p - lo) = s at *
        have hg := pgo_r (kd := kd) (w := W p) (T := s.1) s.2 0
        have wqF : ∀ k : Nat, k = pgo kd (W p) s.1 0 s.2 → Wf K (d + 5) mX12_piles 90 [some (vR 369), none, none, some (vI (hi : Int)), some (vI x), some (vI (s.2 : Int)), some (vI (p : Int)), some (vI (k : Int))] [] V' (fun rr V' => ∃ z, rr = some (vI z) ∧ FrM V V' ∧ z = pilA kd W lo hi x) := by
          intro k hk2
          have nx : ∀ z : Int, z = ((pst kd W lo (p + 1 - lo)).2 : Int) → Wf K (d + 5) mX12_piles 129 [some (vR 369), none, none, some (vI (hi : Int)), some (vI x), none, some (vI (p : Int)), none] [vI z] (upm (upm V' 388 k (W p)) 389 p (k : Int)) (fun rr V' => ∃ z, rr = some (vI z) ∧ FrM V V' ∧ z = pilA kd W lo hi x) := by
            intro z hz
            refine sX12_piles_129 _ _ _ _ ?_
            rw [w32_s (by omega), hz]
            refine ih2 (by omega) _ (fun c q1 q2 => by rw [upm_off c q2, upm_off c q1]; exact hV2 c q1 q2) (fun j hj => ?_) (fun q h1 h2 => ?_)
            · rw [upm_a (by omega), e1]
              show _ = if j = _ then W p else s.1 j
              rw [← hk2]
              by_cases q : j = k
              · subst q; rw [upm_s, if_pos rfl]
              · rw [upm_k q, if_neg q]
                refine hT j ?_
                rw [e2, ← hk2] at hj
                split at hj <;> omega
            · rcases Nat.lt_or_ge q p with z | z
              · rw [upm_k (by omega), upm_a (by omega)]; exact hP q h1 z
              · have : q = p := by omega
                subst this
                rw [upm_s, hk2, hs]
          refine sX12_piles_90 _ _ _ _ _ ⟨⟨by omega, by omega⟩, ⟨by omega, by omega⟩, ⟨by omega, by omega⟩, ?_⟩
          rw [tn, tn, hV2 383 (by omega) (by omega), hW p (by omega), w32_s (by omega)]
          refine ⟨fun c => nx _ ?_, fun c => nx _ ?_⟩
          · rw [e2, ← hk2, if_neg (by omega)]
          · rw [e2, ← hk2, if_pos (by omega)]
        have wqB : ∀ k, k ≤ s.2 → pgo kd (W p) s.1 k (s.2 - k) = pgo kd (W p) s.1 0 s.2 → Wf K (d + 5) mX12_piles 56 [some (vR 369), none, none, some (vI (hi : Int)), some (vI x), some (vI (s.2 : Int)), some (vI (p : Int)), some (vI (k : Int))] [] V' (fun rr V' => ∃ z, rr = some (vI z) ∧ FrM V V' ∧ z = pilA kd W lo hi x) := by
          refine up_ind ?_ ?_
          · intro hq
            rw [Nat.sub_self] at hq
            exact sX12_piles_56 _ _ _ _ _ ⟨fun _ => wqF s.2 hq, fun c => absurd (Int.le_refl _) c⟩
          · intro k hk2 ih3 hq
            refine sX12_piles_56 _ _ _ _ _ ⟨fun c => by omega, fun _ => ⟨⟨by omega, by omega⟩, ⟨by omega, by omega⟩, ?_⟩⟩
            rw [tn, tn, hT k hk2, hV2 383 (by omega) (by omega), hW p (by omega)]
            refine (m_follows (d := d + 4) (by rw [hV2 369 (by omega) (by omega), k3]; exact ⟨m7, m8⟩) _ _).use ?_
            rw [hV2 369 (by omega) (by omega), k3]
            rw [show s.2 - k = (s.2 - (k + 1)) + 1 by omega] at hq
            by_cases c : fol kd (W p) (s.1 k)
            · rw [if_pos c]
              rw [pgo_t c] at hq
              refine ⟨fun q => absurd q (by decide), fun _ => ?_⟩
              rw [w32_s (by omega)]
              exact ih3 hq
            · rw [if_neg c]
              rw [pgo_f c] at hq
              exact ⟨fun _ => wqF k hq, fun q => absurd rfl q⟩
        exact wqB 0 (Nat.zero_le _) rfl
    have := wqA lo b2 (Nat.le_refl _) V3 (fun _ _ _ => rfl) (by rw [Nat.sub_self]; exact fun j hj => absurd hj (Nat.not_lt_zero j)) (fun q h1 h2 => by omega)
    rw [Nat.sub_self] at this
    exact this
  refine ⟨fun c => go (Or.inl c), fun c => (m_within (d := d + 4) _ _ _).use ?_⟩
  rw [w32_id (x := (hi : Int) - 1) (by omega) (by omega)]
  by_cases hx3 : (lo : Int) ≤ x ∧ x ≤ (hi : Int) - 1
  · rw [if_pos hx3]
    exact ⟨fun _ => go (Or.inr (by omega)), fun c => absurd c (by decide)⟩
  · rw [if_neg hx3]
    exact ⟨fun c => absurd rfl c, fun _ => sX12_piles_33 ⟨_, rfl, hV, by rw [if_neg (fun q => by have := q.2; omega)]⟩⟩
end CPI
