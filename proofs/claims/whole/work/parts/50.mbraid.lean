/-! ===== the reference's braids ===== -/
theorem ib85 {b k : Nat} (hb : b ≤ 4326) (hk : k < 8) : w32 (w32 ((b : Int) + 85) + (k : Int)) = ((b + 85 + k : Nat) : Int) := by rw [w32_id (x := (b : Int) + 85) (by omega) (by omega), w32_id (by omega) (by omega)]; omega
theorem ib101 {b k s : Nat} (hb : b ≤ 4326) (hk : k < 8) (hs : s < 10) : w32 (w32 (w32 ((b : Int) + 101) + w32 (10 * (k : Int))) + (s : Int)) = ((b + 101 + 10 * k + s : Nat) : Int) := by rw [w32_id (x := (b : Int) + 101) (by omega) (by omega), w32_id (x := 10 * (k : Int)) (by omega) (by omega), w32_id (x := (b : Int) + 101 + 10 * (k : Int)) (by omega) (by omega), w32_id (by omega) (by omega)]; omega
theorem ix85 {k : Nat} (hk : k < 8) : w32 (85 + (k : Int)) = ((85 + k : Nat) : Int) := by rw [w32_id (by omega) (by omega)]; omega
theorem ix93 {k : Nat} (hk : k < 8) : w32 (93 + (k : Int)) = ((93 + k : Nat) : Int) := by rw [w32_id (by omega) (by omega)]; omega
theorem ix101 {k s : Nat} (hk : k < 8) (hs : s < 10) : w32 (w32 (101 + w32 (10 * (k : Int))) + (s : Int)) = ((101 + 10 * k + s : Nat) : Int) := by rw [w32_id (x := 10 * (k : Int)) (by omega) (by omega), w32_id (x := 101 + 10 * (k : Int)) (by omega) (by omega), w32_id (by omega) (by omega)]; omega
theorem ix085 {k : Nat} (hk : k < 8) : w32 (w32 (0 + 85) + (k : Int)) = ((85 + k : Nat) : Int) := by rw [show w32 (0 + 85) = 85 by decide]; exact ix85 hk
theorem ix11 {i k : Nat} (hi : i ≤ 10) (hk : k ≤ 10) : w32 (w32 (11 * (i : Int)) + (k : Int)) = ((11 * i + k : Nat) : Int) := by rw [w32_id (x := 11 * (i : Int)) (by omega) (by omega), w32_id (by omega) (by omega)]; omega
theorem ix11a {s k : Nat} (hs : s < 10) (hk : k < 10) : w32 (w32 (w32 (11 * (s : Int)) + (k : Int)) + 1) = ((11 * s + (k + 1) : Nat) : Int) := by rw [ix11 (show s ≤ 10 by omega) (show k ≤ 10 by omega), w32_id (by omega) (by omega)]; omega
theorem ix11b {s k : Nat} (hs : s < 10) (hk : k < 10) : w32 (w32 (w32 (11 * (s : Int)) + 11) + (k : Int)) = ((11 * (s + 1) + k : Nat) : Int) := by rw [w32_id (x := 11 * (s : Int)) (by omega) (by omega), w32_id (x := 11 * (s : Int) + 11) (by omega) (by omega), w32_id (by omega) (by omega)]; omega
theorem ix11c {s k : Nat} (hs : s < 10) (hk : k < 10) : w32 (((11 * (s + 1) + k : Nat) : Int) + 1) = ((11 * (s + 1) + (k + 1) : Nat) : Int) := by rw [w32_id (by omega) (by omega)]; omega
theorem ix11d {i : Nat} (hi : i ≤ 10) : w32 (11 * (i : Int)) = ((11 * i + 0 : Nat) : Int) := by rw [w32_id (by omega) (by omega)]; omega
theorem knR_big {e : Nat → Int} {n : Nat} {i : Int} : ∀ (f st : Nat) (o : Nat → Nat), (st : Int) + f ≤ i → knR e n i st f o = -1
  | 0, _, _, _ => rfl
  | f + 1, st, o, h => by
    unfold knR
    by_cases c : sfk (lcu e o) 0 (n - 1) = -1
    · rw [if_pos c]
    · rw [if_neg c, if_neg (by omega), knR_big f (st + 1) _ (by omega)]
theorem ifz1 {p : Prop} {h : Decidable p} (q : (@ite Int p h 1 0) = 0) : ¬ p := fun c => by rw [if_pos c] at q; cases q
theorem ifz0 {p : Prop} {h : Decidable p} (q : ¬ (@ite Int p h 1 0) = 0) : p := Decidable.byContradiction (fun c => q (if_neg c))
section MBR
variable {K : KK} {d : Nat} {V : Mem} {B : Nat}
theorem m_countOf {a n0 n i k : Nat} (h0 : SH[a]? = some (14, n0, [])) (g0 : n0 < 2147483648) (hn : n ≤ n0) (h10 : n ≤ 10) (hi : i ≤ n) : Pu K d mX12_countOf [vR a, vI (n : Int), vI (i : Int), vI (k : Int)] V ((ctn (V a) n i k : Nat) : Int) := by
  refine sX12_countOf a n0 _ _ _ h0 g0 ?_
  generalize hT : ctn (V a) n i k = T
  have hTb : T ≤ n - i := by rw [← hT]; exact ctn_le
  have wqA : ∀ s, s ≤ n → i ≤ s → ∀ acc : Nat, acc + ctn (V a) n s k = T → Wf K d mX12_countOf 6 [some (vR a), some (vI (n : Int)), none, some (vI (k : Int)), some (vI (acc : Int)), some (vI (s : Int))] [] V (fun r V' => ∃ z, r = some (vI z) ∧ z = (T : Int) ∧ V' = V) := by
    refine up_ind ?_ ?_
    · intro _ acc ha
      rw [ctn_n] at ha
      exact sX12_countOf_6 a n0 _ _ _ _ h0 g0 ⟨fun _ => ⟨_, rfl, by omega, rfl⟩, fun c => absurd (Int.le_refl _) c⟩
    · intro s hs ih hl acc ha
      rw [ctn_s hs] at ha
      refine sX12_countOf_6 a n0 _ _ _ _ h0 g0 ⟨fun c => by omega, fun _ => ⟨⟨by omega, by omega⟩, ?_⟩⟩
      rw [tn, w32_s (i := s) (by omega)]
      generalize ctn (V a) n (s + 1) k = y at *
      refine ⟨fun c => ?_, fun c => ?_⟩
      · rw [if_neg (by omega)] at ha
        rw [w32_id (x := (acc : Int) + 0) (by omega) (by omega), Int.add_zero]
        exact ih (by omega) acc (by omega)
      · rw [if_pos (by omega)] at ha
        rw [w32_s (i := acc) (by omega)]
        exact ih (by omega) (acc + 1) (by omega)
  exact wqA i hi (Nat.le_refl _) 0 (by rw [hT]; omega)
theorem m_laysCounts {a b n0 n : Nat} (h0 : SH[a]? = some (14, n0, [])) (g0 : n0 < 2147483648) (hn : n ≤ n0) (h10 : n ≤ 10) (h2 : SH[b]? = some (14, 121, [])) (hab : a ≠ b) : Mv K (d + 1) mX12_laysCounts [vR a, vI (n : Int), vR b] V (fun V' => (∀ c, c ≠ b → V' c = V c) ∧ ∀ i k, i ≤ n → k ≤ n → V' b (11 * i + k) = ((ctn (V a) n i k : Nat) : Int)) := by
  refine sX12_laysCounts a n0 _ b 121 h0 g0 h2 (by decide) ?_
  have wqA : ∀ i, i ≤ n + 1 → ∀ V' : Mem, (∀ c, c ≠ b → V' c = V c) → (∀ x k, x < i → k ≤ n → V' b (11 * x + k) = ((ctn (V a) n x k : Nat) : Int)) → Wf K (d + 1) mX12_laysCounts 2 [some (vR a), some (vI (n : Int)), some (vR b), some (vI (i : Int)), none] [] V' (fun r V' => r = none ∧ (∀ c, c ≠ b → V' c = V c) ∧ ∀ i k, i ≤ n → k ≤ n → V' b (11 * i + k) = ((ctn (V a) n i k : Nat) : Int)) := by
    refine up_ind ?_ ?_
    · intro V' g1 g2
      exact sX12_laysCounts_2 a n0 b 121 _ _ h0 g0 h2 (by decide) ⟨fun _ => ⟨rfl, g1, fun i k q1 q2 => g2 i k (by omega) q2⟩, fun c => absurd (by omega) c⟩
    · intro i hi ih V' g1 g2
      refine sX12_laysCounts_2 a n0 b 121 _ _ h0 g0 h2 (by decide) ⟨fun c => by omega, fun _ => ?_⟩
      have wqB : ∀ k, k ≤ n + 1 → ∀ V' : Mem, (∀ c, c ≠ b → V' c = V c) → (∀ x k, x < i → k ≤ n → V' b (11 * x + k) = ((ctn (V a) n x k : Nat) : Int)) → (∀ y, y < k → V' b (11 * i + y) = ((ctn (V a) n i y : Nat) : Int)) → Wf K (d + 1) mX12_laysCounts 10 [some (vR a), some (vI (n : Int)), some (vR b), some (vI (i : Int)), some (vI (k : Int))] [] V' (fun r V' => r = none ∧ (∀ c, c ≠ b → V' c = V c) ∧ ∀ i k, i ≤ n → k ≤ n → V' b (11 * i + k) = ((ctn (V a) n i k : Nat) : Int)) := by
        refine up_ind ?_ ?_
        · intro V' j1 j2 j3
          refine sX12_laysCounts_10 a n0 b 121 _ _ _ h0 g0 h2 (by decide) ⟨fun _ => ?_, fun c => absurd (by omega) c⟩
          rw [w32_s (i := i) (by omega)]
          refine ih V' j1 (fun x k q1 q2 => ?_)
          by_cases c : x = i
          · rw [c]; exact j3 k (by omega)
          · exact j2 x k (by omega) q2
        · intro k hk ih2 V' j1 j2 j3
          refine sX12_laysCounts_10 a n0 b 121 _ _ _ h0 g0 h2 (by decide) ⟨fun c => by omega, fun _ => ?_⟩
          refine (m_countOf (d := d) (V := V') h0 g0 hn h10 (by omega)).use ?_
          rw [ix11 (show i ≤ 10 by omega) (show k ≤ 10 by omega), tn, w32_s (i := k) (by omega), j1 a hab]
          refine ⟨⟨by omega, by omega⟩, ih2 _ (fun c q => (upm_off c q).trans (j1 c q)) (fun x y q1 q2 => by rw [upm_k (by omega)]; exact j2 x y q1 q2) (fun y hy => ?_)⟩
          by_cases c : y = k
          · rw [c, upm_s]
          · rw [upm_k (by omega)]; exact j3 y (by omega)
      exact wqB 0 (by omega) V' g1 g2 (fun y hy => absurd hy (Nat.not_lt_zero y))
  exact wqA 0 (by omega) V (fun _ _ => rfl) (fun x k h => absurd h (Nat.not_lt_zero x))
theorem m_laysBraid {b k a n : Nat} (h3 : SH[a]? = some (14, 10, [])) (ha : a ≠ 381) (hb : b ≤ 4326) (hk : k < 8) (hn : V 381 (b + 85 + k) = n) (h10 : n ≤ 10) : Mv K d mX12_laysBraid [vR 369, vI (b : Int), vI (k : Int), vR a] V (fun V' => (∀ c, c ≠ a → V' c = V c) ∧ ∀ s, s < n → V' a s = V 381 (b + 101 + 10 * k + s)) := by
  refine sX12_laysBraid _ _ a 10 h3 (by decide) ?_
  have wqA : ∀ s, s ≤ n → ∀ V' : Mem, (∀ c, c ≠ a → V' c = V c) → (∀ t, t < s → V' a t = V 381 (b + 101 + 10 * k + t)) → Wf K d mX12_laysBraid 3 [some (vR 369), some (vI (b : Int)), some (vI (k : Int)), some (vR a), some (vI (s : Int))] [] V' (fun r V' => r = none ∧ (∀ c, c ≠ a → V' c = V c) ∧ ∀ s, s < n → V' a s = V 381 (b + 101 + 10 * k + s)) := by
    refine up_ind ?_ ?_
    · intro V' g1 g2
      refine sX12_laysBraid_3 a 10 _ _ _ h3 (by decide) ?_
      rw [ib85 hb hk, tn, g1 381 (Ne.symm ha), hn]
      exact ⟨⟨by omega, by omega⟩, fun _ => ⟨rfl, g1, g2⟩, fun c => absurd (Int.le_refl _) c⟩
    · intro s hs ih V' g1 g2
      refine sX12_laysBraid_3 a 10 _ _ _ h3 (by decide) ?_
      rw [ib85 hb hk, tn, g1 381 (Ne.symm ha), hn, ib101 hb hk (show s < 10 by omega), tn, tn, w32_s (i := s) (by omega)]
      refine ⟨⟨by omega, by omega⟩, fun c => by omega, fun _ => ⟨⟨by omega, by omega⟩, ⟨by omega, by omega⟩, ih _ (fun c q => (upm_off c q).trans (g1 c q)) (fun t ht => ?_)⟩⟩
      by_cases c : t = s
      · rw [c, upm_s]
      · rw [upm_k c]; exact g2 t (by omega)
  exact wqA 0 (Nat.zero_le _) V (fun _ _ => rfl) (fun t ht => absurd ht (Nat.not_lt_zero t))
theorem m_composes {n : Nat} {e1 e2 : Nat → Int} (h10 : n ≤ 10) (q1 : V 394 = e1) (q2 : V 395 = e2) (p1 : PermOK e1 n) (p2 : PermOK e2 n) : Mv K (d + 2) mX12_composes [vR 369, vI (n : Int)] V (fun V' => (∀ c, c ≠ 396 → c ≠ 397 → c ≠ 398 → c ≠ 399 → V' c = V c) ∧ ∀ s, s < n → V' 396 s = cmp n e1 e2 s) := by
  refine sX12_composes _ ((m_laysCounts (d := d) sh394 (by decide) h10 h10 sh397 (by decide)).use (fun V1 ⟨g1, g2⟩ => (m_laysCounts (d := d) (V := V1) sh395 (by decide) h10 h10 sh398 (by decide)).use (fun V2 ⟨k1, k2⟩ => ?_)))
  rw [q1] at g2
  rw [g1 395 (by decide), q2] at k2
  have uA := ctn_UM p1
  have uB := ctn_UM p2
  have at' := fun (s : Nat) (hs : s < n) => cmp_at p1 p2 (i := s) hs
  generalize ctn e1 n = A at *
  generalize ctn e2 n = Bt at *
  have uC := mpr_UM uA uB
  have hA : ∀ i j, i ≤ n → j ≤ n → V2 397 (11 * i + j) = ((A i j : Nat) : Int) ∧ A i j ≤ 10 := fun i j w1 w2 => by
    have := uA.up w1 w2
    exact ⟨by rw [k1 397 (by decide)]; exact g2 i j w1 w2, by omega⟩
  have hB : ∀ i j, i ≤ n → j ≤ n → V2 398 (11 * i + j) = ((Bt i j : Nat) : Int) ∧ Bt i j ≤ 10 := fun i j w1 w2 => by
    have := uB.up w1 w2
    exact ⟨k2 i j w1 w2, by omega⟩
  have fr2 : ∀ c, c ≠ 397 → c ≠ 398 → V2 c = V c := fun c w1 w2 => by rw [k1 c w2, g1 c w1]
  generalize hC : mpr n A Bt = C at *
  -- the ends
  have wqC : ∀ V4 : Mem, (∀ c, c ≠ 397 → c ≠ 398 → c ≠ 399 → V4 c = V c) → (∀ i k, i ≤ n → k ≤ n → V4 399 (11 * i + k) = ((C i k : Nat) : Int) ∧ C i k ≤ 10) → ∀ s, s ≤ n → ∀ V5 : Mem, (∀ c, c ≠ 396 → V5 c = V4 c) → (∀ t, t < s → V5 396 t = cmp n e1 e2 t) → Wf K (d + 2) mX12_composes 141 [some (vR 369), some (vI (n : Int)), some (vI (s : Int)), none, none, none, none] [] V5 (fun r V' => r = none ∧ (∀ c, c ≠ 396 → c ≠ 397 → c ≠ 398 → c ≠ 399 → V' c = V c) ∧ ∀ s, s < n → V' 396 s = cmp n e1 e2 s) := by
    intro V4 f1 f2
    refine up_ind ?_ ?_
    · intro V5 j1 j2
      exact sX12_composes_141 _ _ ⟨fun _ => ⟨rfl, fun c w1 w2 w3 w4 => by rw [j1 c w1]; exact f1 c w2 w3 w4, j2⟩, fun c => absurd (Int.le_refl _) c⟩
    · intro s hs ih V5 j1 j2
      obtain ⟨r, r1, r2, r3, r4⟩ := at' s hs
      refine sX12_composes_141 _ _ ⟨fun c => by omega, fun _ => ?_⟩
      have wqD : ∀ k, k ≤ n → ∀ V6 : Mem, (∀ c, c ≠ 396 → V6 c = V4 c) → (∀ t, t < s → V6 396 t = cmp n e1 e2 t) → (r < k → V6 396 s = (r : Int)) → Wf K (d + 2) mX12_composes 148 [some (vR 369), some (vI (n : Int)), some (vI (s : Int)), some (vI (k : Int)), none, none, none] [] V6 (fun r V' => r = none ∧ (∀ c, c ≠ 396 → c ≠ 397 → c ≠ 398 → c ≠ 399 → V' c = V c) ∧ ∀ s, s < n → V' 396 s = cmp n e1 e2 s) := by
        refine up_ind ?_ ?_
        · intro V6 u1 u2 u3
          refine sX12_composes_148 _ _ _ ⟨fun _ => ?_, fun c => absurd (Int.le_refl _) c⟩
          rw [w32_s (i := s) (by omega)]
          refine ih V6 u1 (fun t ht => ?_)
          by_cases c : t = s
          · rw [c, u3 r2, r1]
          · exact u2 t (by omega)
        · intro k hk ih2 V6 u1 u2 u3
          have c1 := f2 s (k + 1) (by omega) (by omega)
          have c2 := f2 (s + 1) (k + 1) (by omega) (by omega)
          have c3 := f2 s k (by omega) (by omega)
          have c4 := f2 (s + 1) k (by omega) (by omega)
          have eu : utn C s k = (C s (k + 1) : Int) - C (s + 1) (k + 1) - C s k + C (s + 1) k := rfl
          refine sX12_composes_148 _ _ _ ⟨fun c => by omega, fun _ => ?_⟩
          rw [ix11a (show s < 10 by omega) (show k < 10 by omega), ix11b (show s < 10 by omega) (show k < 10 by omega), ix11c (show s < 10 by omega) (show k < 10 by omega), ix11 (show s ≤ 10 by omega) (show k ≤ 10 by omega)]
          simp only [tn]
          rw [u1 399 (by decide), c1.1, c2.1, c3.1, c4.1, w32_id (x := (C s (k + 1) : Int) - C (s + 1) (k + 1)) (by omega) (by omega), w32_id (x := (C s (k + 1) : Int) - C (s + 1) (k + 1) - C s k) (by omega) (by omega), w32_id (by omega) (by omega), ← eu, w32_s (i := k) (by omega)]
          refine ⟨⟨by omega, by omega⟩, ⟨by omega, by omega⟩, ⟨by omega, by omega⟩, ⟨by omega, by omega⟩, fun c => ⟨⟨by omega, by omega⟩, ⟨by omega, by omega⟩, ?_⟩, fun c => ⟨⟨by omega, by omega⟩, ?_⟩⟩
          · refine ih2 _ (fun c q => (upm_off c q).trans (u1 c q)) (fun t ht => by rw [upm_k (by omega)]; exact u2 t ht) (fun q => ?_)
            rw [upm_s]
            exact u3 (by
              have : k ≠ r := fun w => c (by rw [w]; exact r3)
              omega)
          · have ek : k = r := Decidable.byContradiction (fun w => by rw [r4 k hk w] at c; cases c)
            refine ih2 _ (fun c q => (upm_off c q).trans (u1 c q)) (fun t ht => by rw [upm_k (by omega)]; exact u2 t ht) (fun q => ?_)
            rw [upm_s, ek]
      exact wqD 0 (Nat.zero_le _) V5 j1 j2 (fun h => absurd h (Nat.not_lt_zero r))
  -- the least ones
  have wqA : ∀ i, i ≤ n + 1 → ∀ V3 : Mem, (∀ c, c ≠ 399 → V3 c = V2 c) → (∀ x k, x < i → k ≤ n → V3 399 (11 * x + k) = ((C x k : Nat) : Int)) → Wf K (d + 2) mX12_composes 26 [some (vR 369), some (vI (n : Int)), some (vI (i : Int)), none, none, none, none] [] V3 (fun r V' => r = none ∧ (∀ c, c ≠ 396 → c ≠ 397 → c ≠ 398 → c ≠ 399 → V' c = V c) ∧ ∀ s, s < n → V' 396 s = cmp n e1 e2 s) := by
    refine up_ind ?_ ?_
    · intro V3 j1 j2
      refine sX12_composes_26 _ _ ⟨fun _ => ?_, fun c => absurd (by omega) c⟩
      refine wqC V3 (fun c w1 w2 w3 => by rw [j1 c w3]; exact fr2 c w1 w2) (fun i k w1 w2 => ?_) 0 (Nat.zero_le _) V3 (fun _ _ => rfl) (fun t ht => absurd ht (Nat.not_lt_zero t))
      have := uC.up w1 w2
      exact ⟨j2 i k (by omega) w2, by omega⟩
    · intro i hi ih V3 j1 j2
      refine sX12_composes_26 _ _ ⟨fun c => by omega, fun _ => ?_⟩
      have wqB : ∀ k, k ≤ n + 1 → ∀ V3 : Mem, (∀ c, c ≠ 399 → V3 c = V2 c) → (∀ x k, x < i → k ≤ n → V3 399 (11 * x + k) = ((C x k : Nat) : Int)) → (∀ y, y < k → V3 399 (11 * i + y) = ((C i y : Nat) : Int)) → Wf K (d + 2) mX12_composes 33 [some (vR 369), some (vI (n : Int)), some (vI (i : Int)), some (vI (k : Int)), none, none, none] [] V3 (fun r V' => r = none ∧ (∀ c, c ≠ 396 → c ≠ 397 → c ≠ 398 → c ≠ 399 → V' c = V c) ∧ ∀ s, s < n → V' 396 s = cmp n e1 e2 s) := by
        refine up_ind ?_ ?_
        · intro V3 u1 u2 u3
          refine sX12_composes_33 _ _ _ ⟨fun _ => ?_, fun c => absurd (by omega) c⟩
          rw [w32_s (i := i) (by omega)]
          refine ih V3 u1 (fun x k w1 w2 => ?_)
          by_cases c : x = i
          · rw [c]; exact u3 k (by omega)
          · exact u2 x k (by omega) w2
        · intro k hk ih2 V3 u1 u2 u3
          have hCe : C i k = mnk (fun j => A i j + Bt j k) n := by rw [← hC]; rfl
          obtain ⟨f, hf⟩ : ∃ f : Nat → Nat, f = fun j => A i j + Bt j k := ⟨_, rfl⟩
          rw [← hf] at hCe
          have sm : ∀ j, j ≤ n → w32 (V3 397 (11 * i + j) + V3 398 (11 * j + k)) = ((f j : Nat) : Int) := fun j hj => by
            have a1 := hA i j (by omega) hj
            have a2 := hB j k hj (by omega)
            rw [u1 397 (by decide), u1 398 (by decide), a1.1, a2.1, hf, w32_id (by omega) (by omega)]
            show _ = ((A i j + Bt j k : Nat) : Int)
            omega
          refine sX12_composes_33 _ _ _ ⟨fun c => by omega, fun _ => ?_⟩
          have s0 := sm 0 (Nat.zero_le _)
          rw [show 11 * 0 + k = k by omega] at s0
          rw [ix11d (show i ≤ 10 by omega), tn, tn, s0]
          refine ⟨⟨by omega, by omega⟩, ⟨by omega, by omega⟩, ?_⟩
          have wqE : ∀ j, j ≤ n + 1 → 1 ≤ j → Wf K (d + 2) mX12_composes 59 [some (vR 369), some (vI (n : Int)), some (vI (i : Int)), some (vI (k : Int)), some (vI ((mnk f (j - 1) : Nat) : Int)), some (vI (j : Int)), none] [] V3 (fun r V' => r = none ∧ (∀ c, c ≠ 396 → c ≠ 397 → c ≠ 398 → c ≠ 399 → V' c = V c) ∧ ∀ s, s < n → V' 396 s = cmp n e1 e2 s) := by
            refine up_ind ?_ ?_
            · intro _
              refine sX12_composes_59 _ _ _ _ _ ⟨fun _ => ?_, fun c => absurd (by omega) c⟩
              rw [ix11 (show i ≤ 10 by omega) (show k ≤ 10 by omega), tn, w32_s (i := k) (by omega), show n + 1 - 1 = n from rfl, ← hCe]
              refine ⟨⟨by omega, by omega⟩, ih2 _ (fun c q => (upm_off c q).trans (u1 c q)) (fun x y w1 w2 => by rw [upm_k (by omega)]; exact u2 x y w1 w2) (fun y hy => ?_)⟩
              by_cases c : y = k
              · rw [c, upm_s]
              · rw [upm_k (by omega)]; exact u3 y (by omega)
            · intro j hj ih3 h1
              obtain ⟨u, rfl⟩ : ∃ u, j = u + 1 := ⟨j - 1, by omega⟩
              refine sX12_composes_59 _ _ _ _ _ ⟨fun c => by omega, fun _ => ?_⟩
              rw [ix11 (show i ≤ 10 by omega) (show u + 1 ≤ 10 by omega), ix11 (show u + 1 ≤ 10 by omega) (show k ≤ 10 by omega), tn, tn, sm (u + 1) (by omega), w32_s (i := u + 1) (by omega)]
              have ih3 := ih3 (by omega)
              have em : mnk f (u + 1 + 1 - 1) = min (mnk f u) (f (u + 1)) := rfl
              rw [em] at ih3
              rw [show u + 1 - 1 = u from rfl]
              generalize mnk f u = x at *
              generalize f (u + 1) = y at *
              refine ⟨⟨by omega, by omega⟩, ⟨by omega, by omega⟩, fun c => ?_, fun c => ?_⟩
              · rw [show min x y = x by omega] at ih3; exact ih3
              · rw [show min x y = y by omega] at ih3; exact ih3
          exact wqE 1 (by omega) (Nat.le_refl _)
      exact wqB 0 (by omega) V3 j1 j2 (fun y hy => absurd hy (Nat.not_lt_zero y))
  exact wqA 0 (by omega) V2 (fun _ _ => rfl) (fun x k h => absurd h (Nat.not_lt_zero x))
end MBR
