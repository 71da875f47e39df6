/-! ===== the reference lays a row ===== -/
theorem ix1 {r : Nat} (h : r < 4) : w32 (3 + (w32 (22 * (r : Int)))) = ((3 + 22 * r : Nat) : Int) := by rw [w32_id (x := 22 * (r : Int)) (by omega) (by omega), w32_id (by omega) (by omega)]; omega
theorem ix2 {r : Nat} (h : r < 4) : w32 (0 + (r : Int)) = (r : Int) := by rw [w32_id (by omega) (by omega)]; omega
theorem ix3 {r i : Nat} (hr : r < 4) (hi : i ≤ 20) : w32 ((w32 ((w32 (0 + 4)) + (w32 (20 * (r : Int))))) + (i : Int)) = ((4 + 20 * r + i : Nat) : Int) := by
  rw [show w32 (0 + 4) = 4 by decide, w32_id (x := 20 * (r : Int)) (by omega) (by omega), w32_id (x := 4 + 20 * (r : Int)) (by omega) (by omega), w32_id (by omega) (by omega)]; omega
theorem wv_plain {f : Int → Int} {P : Nat → Int × Int} (h : P 0 = (2, 0)) : wv f P 1 = f 0 := by
  unfold wv
  rw [show (1 : Nat) = 0 + 1 from rfl]
  simp [vr, dp, h]
section CLY
variable {K : KK} {d : Nat} {V : Mem}
/-- the reference lays row r: its kind, its many, its weights -/
theorem m_laysRow {r m n : Nat} {P : Nat → Int × Int} (hl : lawM V P n) (hw : wfP P n) (hr : r < 4) (hm : V 381 r = m) (h20 : m ≤ 20) : Mv K (d + 3) mX12_laysRow [vR 369, vI (r : Int)] V (fun V' => (∀ c, c ≠ 369 → c ≠ 379 → c ≠ 380 → c ≠ 383 → V' c = V c) ∧ (∀ j, j ≠ 22 → j ≠ 23 → V' 369 j = V 369 j) ∧ V' 369 22 = V 375 (3 + 22 * r) ∧ V' 369 23 = m ∧ ∀ p, p < m → V' 383 p = wv (fct (V 381 (4 + 20 * r + p)) p m (V 375 (3 + 22 * r))) P n) := by
  refine sX12_laysRow r ?_
  rw [ix1 hr, ix2 hr, tn, tn]
  refine ⟨⟨by omega, by omega⟩, ⟨by omega, by omega⟩, ?_⟩
  rw [upm_a (b := 381) (by omega), hm]
  generalize hk : V 375 (3 + 22 * r) = k
  have wqA : ∀ i, i ≤ m → ∀ V' : Mem, (∀ c, c ≠ 369 → c ≠ 379 → c ≠ 380 → c ≠ 383 → V' c = V c) → (∀ j, j ≠ 22 → j ≠ 23 → V' 369 j = V 369 j) → V' 369 22 = k → V' 369 23 = (m : Int) → (∀ p, p < i → V' 383 p = wv (fct (V 381 (4 + 20 * r + p)) p m k) P n) → Wf K (d + 3) mX12_laysRow 21 [some (vR 369), some (vI (r : Int)), some (vI (i : Int))] [] V' (fun rr V' => rr = none ∧ (∀ c, c ≠ 369 → c ≠ 379 → c ≠ 380 → c ≠ 383 → V' c = V c) ∧ (∀ j, j ≠ 22 → j ≠ 23 → V' 369 j = V 369 j) ∧ V' 369 22 = k ∧ V' 369 23 = (m : Int) ∧ ∀ p, p < m → V' 383 p = wv (fct (V 381 (4 + 20 * r + p)) p m k) P n) := by
    refine up_ind ?_ ?_
    · intro V' g1 g2 g3 g4 g5
      exact sX12_laysRow_21 _ _ ⟨fun _ => ⟨rfl, g1, g2, g3, g4, g5⟩, fun c => absurd (by rw [g4]; exact Int.le_refl _) c⟩
    · intro i hi ih V' g1 g2 g3 g4 g5
      refine sX12_laysRow_21 _ _ ⟨fun c => absurd c (by rw [g4]; omega), fun _ => ?_⟩
      rw [ix3 hr (show i ≤ 20 by omega), tn, g3, g4, g1 381 (by omega) (by omega) (by omega) (by omega), tn]
      refine ⟨⟨by omega, by omega⟩, ?_⟩
      generalize hV1 : upm (upm (upm (upm V' 379 0 (V 381 (4 + 20 * r + i))) 379 1 (i : Int)) 379 2 (m : Int)) 379 3 k = V1
      have k1 : ∀ c, c ≠ 379 → V1 c = V' c := fun c hc => by rw [← hV1, upm_off c hc, upm_off c hc, upm_off c hc, upm_off c hc]
      have f0 : V1 379 0 = V 381 (4 + 20 * r + i) := by rw [← hV1, upm_k (by omega), upm_k (by omega), upm_k (by omega), upm_s]
      have f1 : V1 379 1 = (i : Int) := by rw [← hV1, upm_k (by omega), upm_k (by omega), upm_s]
      have f2 : V1 379 2 = (m : Int) := by rw [← hV1, upm_k (by omega), upm_s]
      have f3 : V1 379 3 = k := by rw [← hV1, upm_s]
      have e5 : V1 375 2 = V 375 2 := by rw [k1 375 (by omega), g1 375 (by omega) (by omega) (by omega) (by omega)]
      rw [e5, w32_s (by omega)]
      have fin : ∀ (z : Int) (V3 : Mem), (∀ c, c ≠ 380 → V3 c = V1 c) → z = wv (fct (V 381 (4 + 20 * r + i)) i m k) P n → Wf K (d + 3) mX12_laysRow 21 [some (vR 369), some (vI (r : Int)), some (vI ((i + 1 : Nat) : Int))] [] (upm V3 383 i z) (fun rr V' => rr = none ∧ (∀ c, c ≠ 369 → c ≠ 379 → c ≠ 380 → c ≠ 383 → V' c = V c) ∧ (∀ j, j ≠ 22 → j ≠ 23 → V' 369 j = V 369 j) ∧ V' 369 22 = k ∧ V' 369 23 = (m : Int) ∧ ∀ p, p < m → V' 383 p = wv (fct (V 381 (4 + 20 * r + p)) p m k) P n) := by
        intro z V3 c1 hz
        have c369 : upm V3 383 i z 369 = V' 369 := by rw [upm_off 369 (by omega), c1 369 (by omega), k1 369 (by omega)]
        refine ih _ (fun c q1 q2 q3 q4 => by rw [upm_off c q4, c1 c q3, k1 c q2]; exact g1 c q1 q2 q3 q4) (fun j h1 h2 => by rw [c369]; exact g2 j h1 h2) (by rw [c369]; exact g3) (by rw [c369]; exact g4) (fun p hp => ?_)
        rcases Nat.lt_or_ge p i with q | q
        · rw [upm_k (by omega), c1 383 (by omega), k1 383 (by omega)]; exact g5 p q
        · have : p = i := by omega
          subst this
          rw [upm_s, hz]
      have hcg : wv (fun q => V1 379 q.toNat) P n = wv (fct (V 381 (4 + 20 * r + i)) i m k) P n := by
        unfold wv
        rw [vr_congr hw (fun q hq => fct_k (g := V1 379) f0 f1 f2 f3 hq) n (Nat.le_refl n)]
      rcases hl with ⟨l1, l2, l3⟩ | ⟨o, l1, l2, l3, l4⟩
      · refine ⟨fun c => by omega, fun _ => ⟨⟨by omega, by omega⟩, fin _ V1 (fun _ _ => rfl) ?_⟩⟩
        rw [l2, wv_plain l3]
        rfl
      · rw [l1]
        refine ⟨fun _ => ?_, fun c => by omega⟩
        have h376 : V1 376 = V 376 := by rw [k1 376 (by omega), g1 376 (by omega) (by omega) (by omega) (by omega)]
        refine Mi.use (m_worthAt (d := d) (V := V1) (P := P) l2 (fun j hj => by rw [h376]; exact l3 j hj) (by rw [h376]; exact l4) hw) (fun z V3 ⟨z1, z2⟩ => ⟨⟨by omega, by omega⟩, fin z V3 z2 (z1.trans hcg)⟩)
  refine wqA 0 (Nat.zero_le m) _ (fun c q1 _ _ _ => by rw [upm_off c q1, upm_off c q1]) (fun j h1 h2 => by rw [upm_k h2, upm_k h1]) (by rw [upm_k (by omega), upm_s]) (upm_s _ _ _ _) (fun p hp => absurd hp (Nat.not_lt_zero p))
end CLY
