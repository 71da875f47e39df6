/-! ===== settles, below, row, item, count: both sides with the coupling ===== -/
section QS2
variable {K : KK} {d : Nat} {V : Mem}
theorem cpbr_fr {V V1 : Mem} {B : Nat} (hB : CpBr V 43 (V 381) B) (f1 : FrX V V1) : CpBr V1 43 (V1 381) B := by
  have h8 := hB.2.2.1
  rw [f1 381 (by omega)]
  unfold CpBr
  rw [f1 43 (by omega)]
  refine ⟨hB.1, hB.2.1, h8, fun k hk => ?_⟩
  rw [f1 (43 + 14 + 2 * k) (by omega), f1 (43 + 15 + 2 * k) (by omega)]
  exact hB.2.2.2 k hk
theorem st_settles (hI : Inv V) (hE : kE K = false) (k : Int) : Bth K (d + 7) mX11_settles [vR 0, vI k] mX12_settles [vR 369, vI k] V := by
  obtain ⟨P, n, R, B, S, BT, hT, hK, hTo, hLw, hL, hM, hH, hLn, hmd⟩ := id hI
  have hB := CpBr.of hL.2.1 hL.2.2.1
  refine Mi.use (x_settles (d := d + 3) hB hE k) (fun z V1 ⟨f1, e1⟩ => ?_)
  have g2 : V1 381 = V 381 := f1 381 (by omega)
  refine Mi.use (m_settles (d := d + 3) (V := V1) (cpbr_fr hB f1) k) (fun z2 V2 ⟨f2, e2⟩ => ⟨?_, no_deed (frx_inv hI f1) f2⟩)
  delta brC nBr EB at e1 e2
  rw [g2] at e2
  rcases e1 with ⟨q1, q2⟩ | ⟨q1, q2⟩ <;> rcases e2 with ⟨p1, p2⟩ | ⟨p1, p2⟩
  · rw [q2, p2]
  · exact absurd p1 q1
  · exact absurd q1 p1
  · exact p2.un q2
theorem st_below (hI : Inv V) (x y : Int) : Bth K (d + 7) mX11_below [vR 0, vI x, vI y] mX12_below [vR 369, vI x, vI y] V := by
  obtain ⟨P, n, R, B, S, BT, hT, hK, hTo, hLw, hL, hM, hH, hLn, hmd⟩ := id hI
  have hB := CpBr.of hL.2.1 hL.2.2.1
  refine Mi.use (x_below (d := d + 5) hB x y) (fun z V1 ⟨f1, b1, e1⟩ => ?_)
  have g2 : V1 381 = V 381 := f1 381 (by omega)
  refine Mi.use (m_below (d := d + 5) (V := V1) (cpbr_fr hB f1) x y) (fun z2 V2 ⟨f2, b2, e2⟩ => ⟨?_, no_deed (frx_inv hI f1) f2⟩)
  delta alC brC nBr EB at e1 e2
  rw [g2] at e2
  have e3 := e2.trans e1.symm
  rcases b1 with rfl | rfl <;> rcases b2 with rfl | rfl
  · rfl
  · exact (e3.mp rfl).symm
  · exact e3.mpr rfl
  · rfl
theorem st_row (hI : Inv V) (r w : Int) : Bth K (d + 7) mX11_row [vR 0, vI r, vI w] mX12_row [vR 369, vI r, vI w] V := by
  obtain ⟨P, n, R, B, S, BT, hT, hK, hTo, hLw, hL, hM, hH, hLn, hmd⟩ := id hI
  have hx := hL.1.1
  have hr0 := hTo.1.2.1
  have hR := hTo.1.2.2.1
  have f0 : FrM V (upm V 369 0 0) := FrM.th 0
  have key : ∀ z : Int, z = (if rowC V r ∧ 0 ≤ w ∧ w ≤ 1 then (if w = 0 then V 375 (3 + 22 * r.toNat) else V 381 r.toNat) else -1) → ∃ y, some (vI z) = some (vI y) ∧ Mi K (d + 7) mX12_row [vR 369, vI r, vI w] V (fun z2 V2 => z2 = y ∧ Inv V2) := by
    intro z hz
    refine ⟨_, rfl, sX12_row r w ((m_isRow (d := d + 5) r).use ?_)⟩
    rw [f0.c375]
    by_cases q : 0 ≤ r ∧ r < V 375 0
    · rw [if_pos q]
      refine ⟨fun c => absurd c (by decide), fun _ => (m_within (d := d + 6) _ _ _).use ?_⟩
      obtain ⟨i, rfl⟩ : ∃ i : Nat, r = i := ⟨r.toNat, by omega⟩
      rw [tn] at hz
      by_cases q2 : 0 ≤ w ∧ w ≤ 1
      · rw [if_pos q2]
        rw [if_pos ⟨q, q2⟩] at hz
        rw [ix2 (show i < 4 by omega), ix1 (show i < 4 by omega), tn, tn, f0.c375, f0.c381]
        refine ⟨fun c => absurd c (by decide), fun _ => ⟨fun c => ⟨⟨by omega, by omega⟩, _, rfl, ?_, inv_th hI⟩, fun c => ⟨⟨by omega, by omega⟩, _, rfl, ?_, inv_th hI⟩⟩⟩
        · rw [hz, if_neg c]
        · rw [hz, if_pos c]
      · rw [if_neg q2]
        rw [if_neg (fun c => q2 c.2)] at hz
        exact ⟨fun _ => ⟨_, rfl, hz.symm, inv_th hI⟩, fun c => absurd rfl c⟩
    · rw [if_neg q]
      rw [if_neg (fun c => q c.1)] at hz
      exact ⟨fun _ => ⟨_, rfl, hz.symm, inv_th hI⟩, fun c => absurd rfl c⟩
  refine sX11_row r w ⟨fun c => key _ (by rw [if_neg (by omega)]), fun c1 => ⟨fun c => key _ (by rw [if_neg (by omega)]), fun c2 => ⟨⟨by omega, by omega⟩, ?_⟩⟩⟩
  obtain ⟨i, rfl⟩ : ∃ i : Nat, r = i := ⟨r.toNat, by omega⟩
  obtain ⟨m, a1, a2, a3, a4, a5, a6⟩ := hL.1.2.2 i (by omega)
  have a1' : V (49 + 2 * i) 3 = m := a1
  have a6' : V (49 + 2 * i) 2 = V 375 (3 + 22 * i) := a6
  rw [tn, a1', a6']
  rw [tn, a2] at key
  refine ⟨fun c3 => ⟨fun c4 => key _ (by rw [if_neg (by omega)]), fun c4 => key _ ?_⟩, fun c3 => key _ ?_⟩
  · rw [if_pos ⟨⟨by omega, by omega⟩, by omega, by omega⟩, if_neg c3]
  · rw [if_pos ⟨⟨by omega, by omega⟩, by omega, by omega⟩, if_pos c3]
theorem st_item (hI : Inv V) (r p : Int) : Bth K (d + 7) mX11_item [vR 0, vI r, vI p] mX12_item [vR 369, vI r, vI p] V := by
  obtain ⟨P, n, R, B, S, BT, hT, hK, hTo, hLw, hL, hM, hH, hLn, hmd⟩ := id hI
  have hx := hL.1.1
  have hr0 := hTo.1.2.1
  have hR := hTo.1.2.2.1
  have f0 : FrM V (upm V 369 0 0) := FrM.th 0
  have key : ∀ z : Int, z = (if plC V r p then V 381 (4 + 20 * r.toNat + p.toNat) else -1) → ∃ y, some (vI z) = some (vI y) ∧ Mi K (d + 7) mX12_item [vR 369, vI r, vI p] V (fun z2 V2 => z2 = y ∧ Inv V2) := by
    intro z hz
    refine ⟨_, rfl, sX12_item r p ((m_isPlace (d := d + 4) (by rw [f0.c375, hr0]; omega) r p).use ?_)⟩
    rw [f0.c375, f0.c381]
    by_cases q : plC V r p
    · rw [if_pos q]
      rw [if_pos q] at hz
      obtain ⟨i, rfl⟩ : ∃ i : Nat, r = i := ⟨r.toNat, by have := q.1; omega⟩
      obtain ⟨j, rfl⟩ : ∃ j : Nat, p = j := ⟨p.toNat, by have := q.2.2.1; omega⟩
      have q4 := q.2.2.2
      obtain ⟨m, a1, a2, a3, a4, a5, a6⟩ := hL.1.2.2 i (by omega)
      rw [tn, a2] at q4
      rw [ix3 (show i < 4 by omega) (show j ≤ 20 by omega), tn]
      rw [tn, tn] at hz
      exact ⟨fun c => absurd c (by decide), fun _ => ⟨⟨by omega, by omega⟩, _, rfl, hz.symm, inv_th hI⟩⟩
    · rw [if_neg q]
      rw [if_neg q] at hz
      exact ⟨fun _ => ⟨_, rfl, hz.symm, inv_th hI⟩, fun c => absurd rfl c⟩
  refine sX11_item r p ⟨fun c => key _ (by rw [if_neg (by omega)]), fun c1 => ⟨fun c => key _ (by rw [if_neg (by omega)]), fun c2 => ⟨⟨by omega, by omega⟩, ?_⟩⟩⟩
  obtain ⟨i, rfl⟩ : ∃ i : Nat, r = i := ⟨r.toNat, by omega⟩
  obtain ⟨m, a1, a2, a3, a4, a5, a6⟩ := hL.1.2.2 i (by omega)
  have hrow : IsRow (49 + 2 * i) := hL.1.isr is43 (show i < R by omega)
  have a1' : V (49 + 2 * i) 3 = m := a1
  rw [tn]
  refine (c_hasPlace (d := d + 6) hrow p).use ?_
  rw [a1']
  by_cases c : 0 ≤ p ∧ p < (m : Int) ∧ p < 20
  · rw [if_pos c]
    refine ⟨fun _ => ⟨⟨by omega, by omega⟩, key _ ?_⟩, fun q => absurd q (by decide)⟩
    rw [if_pos ⟨by omega, by omega, by omega, by rw [tn, a2]; omega⟩, tn, show 49 + 2 * i + 1 = 43 + 7 + 2 * i by omega]
    exact (a5 p.toNat (by omega)).1
  · rw [if_neg c]
    refine ⟨fun q => absurd rfl q, fun _ => key _ ?_⟩
    rw [if_neg (fun q => c (by have := q.2.2; rw [tn, a2] at this; omega))]
/-- how many numbers the rows have -/
def nmS (g : Nat → Int) : Nat → Int
  | 0 => 0
  | r + 1 => nmS g r + g r
theorem nmS_r {g : Nat → Int} {R : Nat} (h : ∀ r, r < R → 1 ≤ g r ∧ g r ≤ 20) : ∀ r, r ≤ R → 0 ≤ nmS g r ∧ nmS g r ≤ 20 * (r : Int)
  | 0, _ => ⟨Int.le_refl _, by show (0 : Int) ≤ _; omega⟩
  | r + 1, hr => by
    have ih := nmS_r h r (by omega)
    have h1 := h r (by omega)
    show 0 ≤ nmS g r + g r ∧ nmS g r + g r ≤ _
    generalize nmS g r = z at *
    omega
theorem w32_ai {x y : Int} (h : 0 ≤ x ∧ x ≤ 100) (h2 : 0 ≤ y ∧ y ≤ 20) : w32 (x + y) = x + y := w32_id (by omega) (by omega)
theorem nm_b {g : Nat → Int} {R r : Nat} (h : ∀ r, r < R → 1 ≤ g r ∧ g r ≤ 20) (hR : R ≤ 4) (hr : r ≤ R) : 0 ≤ nmS g r ∧ nmS g r ≤ 100 := by
  have := nmS_r h r hr
  generalize nmS g r = z at *
  omega
theorem c_allNumbers {a R : Nat} {g kd : Nat → Int} (h0 : IsStore a) (h : CpRw V a g kd R) : Pu K d mX7_allNumbers [vR a] V (nmS g R) := by
  have hR := h.2.1
  have h5 := h.1
  have hg : ∀ r, r < R → 1 ≤ g r ∧ g r ≤ 20 := fun r hr => by
    obtain ⟨m, a1, a2, a3, a4, -⟩ := h.2.2 r hr
    omega
  refine sX7_allNumbers a h0 ?_
  have wqA : ∀ r, r ≤ R → Wf K d mX7_allNumbers 4 [some (vR a), some (vI (nmS g r)), some (vI (r : Int))] [] V (fun rr V' => ∃ z, rr = some (vI z) ∧ z = nmS g R ∧ V' = V) := by
    refine up_ind ?_ ?_
    · exact sX7_allNumbers_4 a _ _ h0 ⟨fun _ => ⟨_, rfl, rfl, rfl⟩, fun c => absurd (by rw [h5]; exact Int.le_refl _) c⟩
    · intro r hr ih
      obtain ⟨m, a1, a2, a3, a4, -⟩ := h.2.2 r hr
      refine sX7_allNumbers_4 a _ _ h0 ⟨fun c => absurd c (by rw [h5]; omega), fun _ => ⟨⟨by omega, by omega⟩, ?_⟩⟩
      rw [tn, a1, w32_s (i := r) (by omega), w32_ai (nm_b hg hR (by omega)) ⟨by omega, by omega⟩, ← a2]
      exact ih
  exact wqA 0 (Nat.zero_le _)
theorem m_numbersOf {b R : Nat} (hb : b ≤ 4326) (hr : V 375 0 = R) (hR : R ≤ 4) (hg : ∀ r, r < R → 1 ≤ bk V b r ∧ bk V b r ≤ 20) : Pu K (d + 1) mX12_numbersOf [vR 369, vI (b : Int)] V (nmS (bk V b) R) := by
  refine sX12_numbersOf _ ?_
  have wqA : ∀ r, r ≤ R → Wf K (d + 1) mX12_numbersOf 4 [some (vR 369), some (vI (b : Int)), some (vI (nmS (bk V b) r)), some (vI (r : Int))] [] V (fun rr V' => ∃ z, rr = some (vI z) ∧ z = nmS (bk V b) R ∧ V' = V) := by
    refine up_ind ?_ ?_
    · exact sX12_numbersOf_4 _ _ _ ⟨fun _ => ⟨_, rfl, rfl, rfl⟩, fun c => absurd (by rw [hr]; exact Int.le_refl _) c⟩
    · intro r hr2 ih
      have h1 := hg r hr2
      refine sX12_numbersOf_4 _ _ _ ⟨fun c => absurd c (by rw [hr]; omega), fun _ => ?_⟩
      rw [ixad (show b + r < 5000 by omega), tn, w32_s (i := r) (by omega), show V 381 (b + r) = bk V b r from rfl, w32_ai (nm_b hg hR (by omega)) ⟨by omega, by omega⟩]
      exact ⟨⟨by omega, by omega⟩, ih⟩
  exact wqA 0 (Nat.zero_le _)
theorem st_count (hI : Inv V) (w : Int) : Bth K (d + 7) mX11_count [vR 0, vI w] mX12_count [vR 369, vI w] V := by
  obtain ⟨P, n, R, B, S, BT, hT, hK, hTo, hLw, hL, hM, hH, hLn, hmd⟩ := id hI
  obtain ⟨U, u1, u2, u3, -⟩ := hH
  obtain ⟨L, t1, t2, -⟩ := hT
  obtain ⟨ln, n1, n2, -⟩ := hLn
  have f0 : FrM V (upm V 369 0 0) := FrM.th 0
  have hR := hTo.1.2.2.1
  have hIt := inv_th hI
  have hb0 : bk (upm V 369 0 0) 0 = V 381 := by rw [bk0, f0.c381]
  refine sX11_count w ⟨fun c => ⟨_, rfl, ?_⟩, fun c => ⟨_, rfl, ?_⟩, fun c => ?_, fun c => ⟨_, rfl, ?_⟩, fun c => ⟨_, rfl, ?_⟩, fun c => ⟨_, rfl, ?_⟩, fun c => ⟨_, rfl, ?_⟩, fun c => ⟨_, rfl, ?_⟩, fun c => ⟨_, rfl, ?_⟩⟩
  · subst c
    exact sX12_count _ ⟨fun _ => ⟨_, rfl, by rw [f0.c375, hTo.1.2.1, hL.1.1], hIt⟩, fun c => absurd c (by decide), fun c => absurd c (by decide), fun c => absurd c (by decide), fun c => absurd c (by decide), fun c => absurd c (by decide), fun c => absurd c (by decide), fun c => absurd c (by decide), fun c => by omega⟩
  · subst c
    exact sX12_count _ ⟨fun c => absurd c (by decide), fun _ => ⟨_, rfl, by rw [f0.c381, hL.2.1.2.1, hL.2.1.1], hIt⟩, fun c => absurd c (by decide), fun c => absurd c (by decide), fun c => absurd c (by decide), fun c => absurd c (by decide), fun c => absurd c (by decide), fun c => absurd c (by decide), fun c => by omega⟩
  · subst c
    refine (c_allNumbers (d := d + 6) is43 hL.1).use ⟨_, rfl, ?_⟩
    refine sX12_count _ ⟨fun c => absurd c (by decide), fun c => absurd c (by decide), fun _ => ?_, fun c => absurd c (by decide), fun c => absurd c (by decide), fun c => absurd c (by decide), fun c => absurd c (by decide), fun c => absurd c (by decide), fun c => by omega⟩
    refine (m_numbersOf (d := d + 5) (V := upm V 369 0 0) (b := 0) (R := R) (by omega) (by rw [f0.c375]; exact hTo.1.2.1) hR (fun r hr => ?_)).use ⟨_, rfl, by rw [hb0], hIt⟩
    rw [hb0]
    obtain ⟨m, a1, a2, a3, a4, -⟩ := hL.1.2.2 r hr
    omega
  · subst c
    exact sX12_count _ ⟨fun c => absurd c (by decide), fun c => absurd c (by decide), fun c => absurd c (by decide), fun _ => ⟨_, rfl, by rw [upm_k (by decide), hmd], hIt⟩, fun c => absurd c (by decide), fun c => absurd c (by decide), fun c => absurd c (by decide), fun c => absurd c (by decide), fun c => by omega⟩
  · subst c
    exact sX12_count _ ⟨fun c => absurd c (by decide), fun c => absurd c (by decide), fun c => absurd c (by decide), fun c => absurd c (by decide), fun _ => ⟨_, rfl, by rw [upm_off 378 (by decide), n1, n2], hIt⟩, fun c => absurd c (by decide), fun c => absurd c (by decide), fun c => absurd c (by decide), fun c => by omega⟩
  · subst c
    exact sX12_count _ ⟨fun c => absurd c (by decide), fun c => absurd c (by decide), fun c => absurd c (by decide), fun c => absurd c (by decide), fun c => absurd c (by decide), fun _ => ⟨_, rfl, by rw [f0.c381, hL.2.2.2.1, hL.2.2.2.2.1], hIt⟩, fun c => absurd c (by decide), fun c => absurd c (by decide), fun c => by omega⟩
  · subst c
    exact sX12_count _ ⟨fun c => absurd c (by decide), fun c => absurd c (by decide), fun c => absurd c (by decide), fun c => absurd c (by decide), fun c => absurd c (by decide), fun c => absurd c (by decide), fun _ => ⟨_, rfl, by rw [upm_k (by decide), u2, u3], hIt⟩, fun c => absurd c (by decide), fun c => by omega⟩
  · subst c
    exact sX12_count _ ⟨fun c => absurd c (by decide), fun c => absurd c (by decide), fun c => absurd c (by decide), fun c => absurd c (by decide), fun c => absurd c (by decide), fun c => absurd c (by decide), fun c => absurd c (by decide), fun _ => ⟨_, rfl, by rw [upm_k (by decide), t1, t2], hIt⟩, fun c => by omega⟩
  · exact sX12_count _ ⟨fun c => by omega, fun c => by omega, fun c => by omega, fun c => by omega, fun c => by omega, fun c => by omega, fun c => by omega, fun c => by omega, fun _ => ⟨_, rfl, rfl, hIt⟩⟩
end QS2
