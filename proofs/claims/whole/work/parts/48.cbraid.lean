/-! ===== the class's braids and composer ===== -/
section CBC
variable {K : KK} {d : Nat} {V : Mem}
theorem w32_i {x : Nat} (h : x < 2147483647) : w32 ((x : Int) + 1) = ((x + 1 : Nat) : Int) := w32_s h
theorem c_countOf {a n i k : Nat} (h0 : IsBraid a) (hn : V a 2 = n) (h10 : n ≤ 10) (hi : i ≤ n) : Pu K (d + 1) mX0_countOf [vR a, vI (i : Int), vI (k : Int)] V ((ctn (V (a + 1)) n i k : Nat) : Int) := by
  refine sX0_countOf a _ _ h0 ?_
  rw [show max (i : Int) 0 = (i : Int) by omega]
  generalize hT : ctn (V (a + 1)) n i k = T
  have hTb : T ≤ n - i := by rw [← hT]; exact ctn_le
  have wqA : ∀ s, s ≤ n → i ≤ s → ∀ acc : Nat, acc + ctn (V (a + 1)) n s k = T → Wf K (d + 1) mX0_countOf 9 [some (vR a), none, some (vI (k : Int)), some (vI (acc : Int)), some (vI (s : Int))] [] V (fun r V' => ∃ z, r = some (vI z) ∧ z = (T : Int) ∧ V' = V) := by
    refine up_ind ?_ ?_
    · intro _ acc ha
      rw [ctn_n] at ha
      exact sX0_countOf_9 a _ _ _ h0 ⟨fun _ => ⟨_, rfl, by omega, rfl⟩, fun c => absurd (by rw [hn]; exact Int.le_refl _) c⟩
    · intro s hs ih hl acc ha
      rw [ctn_s hs] at ha
      refine sX0_countOf_9 a _ _ _ h0 ⟨fun c => absurd c (by rw [hn]; omega), fun _ => ⟨⟨by omega, by omega⟩, ?_⟩⟩
      rw [tn, w32_s (i := s) (by omega)]
      generalize ctn (V (a + 1)) n (s + 1) k = y at *
      refine ⟨fun c => ih (by omega) acc ?_, fun c => ?_⟩
      · rw [if_neg (by omega)] at ha; omega
      · rw [if_pos (by omega)] at ha
        rw [w32_s (i := acc) (by omega)]
        exact ih (by omega) (acc + 1) (by omega)
  exact wqA i hi (Nat.le_refl _) 0 (by rw [hT]; omega)
theorem c_crossings {a n : Nat} (h0 : IsBraid a) (hn : V a 2 = n) (h10 : n ≤ 10) (h1 : 1 ≤ n) : Pu K d mX0_crossings [vR a] V ((crO (V (a + 1)) n : Nat) : Int) := by
  refine sX0_crossings a h0 ?_
  have wqA : ∀ s, s ≤ n → 1 ≤ s → Wf K d mX0_crossings 4 [some (vR a), some (vI ((crO (V (a + 1)) s : Nat) : Int)), some (vI (s : Int)), none] [] V (fun r V' => ∃ z, r = some (vI z) ∧ z = ((crO (V (a + 1)) n : Nat) : Int) ∧ V' = V) := by
    refine up_ind ?_ ?_
    · intro _
      exact sX0_crossings_4 a _ _ h0 ⟨fun _ => ⟨_, rfl, rfl, rfl⟩, fun c => absurd (by rw [hn]; exact Int.le_refl _) c⟩
    · intro s hs ih hl
      refine sX0_crossings_4 a _ _ h0 ⟨fun c => absurd c (by rw [hn]; omega), fun _ => ?_⟩
      have b1 := crO_le (e := V (a + 1)) s (by omega)
      have ih := ih (by omega)
      have e : crO (V (a + 1)) (s + 1) = crO (V (a + 1)) s + crI (V (a + 1)) s s := rfl
      rw [e] at ih
      generalize crO (V (a + 1)) s = T at *
      have wqB : ∀ q, q ≤ s → Wf K d mX0_crossings 14 [some (vR a), some (vI ((T + crI (V (a + 1)) s q : Nat) : Int)), some (vI (s : Int)), some (vI (q : Int))] [] V (fun r V' => ∃ z, r = some (vI z) ∧ z = ((crO (V (a + 1)) n : Nat) : Int) ∧ V' = V) := by
        refine up_ind ?_ ?_
        · refine sX0_crossings_14 a _ _ _ h0 ⟨fun _ => ?_, fun c => absurd (Int.le_refl _) c⟩
          rw [w32_s (i := s) (by omega)]
          exact ih
        · intro q hq ih2
          have b2 := crI_le (e := V (a + 1)) (s := s) q
          have e2 : crI (V (a + 1)) s (q + 1) = crI (V (a + 1)) s q + (if V (a + 1) s < V (a + 1) q then 1 else 0) := rfl
          rw [e2] at ih2
          generalize crI (V (a + 1)) s q = U at *
          refine sX0_crossings_14 a _ _ _ h0 ⟨fun c => by omega, fun _ => ⟨⟨by omega, by omega⟩, ⟨by omega, by omega⟩, ?_⟩⟩
          rw [tn, tn, w32_s (i := q) (by omega), w32_s (i := T + U) (by omega)]
          refine ⟨fun c => ?_, fun c => ?_⟩
          · rw [if_neg (by omega)] at ih2; exact ih2
          · rw [if_pos (by omega)] at ih2; exact ih2
      exact wqB 0 (Nat.zero_le _)
  exact wqA 1 h1 (Nat.le_refl _)
theorem c_tabulate {a t n : Nat} (h0 : IsBraid a) (h1 : IsTab 11 t) (hat : a + 1 < t) (hn : V a 2 = n) (h10 : n ≤ 10) : Mv K d mX2_tabulate [vR a, vR t] V (fun V' => (∀ c, c ≤ t ∨ t + 12 ≤ c → V' c = V c) ∧ ∀ i k, i ≤ n → k ≤ n → V' (t + 1 + i) k = ((ctn (V (a + 1)) n i k : Nat) : Int)) := by
  refine sX2_tabulate a t 11 h0 h1 ?_
  rw [hn]
  have wqB : ∀ i, i ≤ n → ∀ V' : Mem, (∀ c, c ≤ t ∨ t + 12 ≤ c → V' c = V c) → (∀ x k, i ≤ x → x ≤ n → k ≤ n → V' (t + 1 + x) k = ((ctn (V (a + 1)) n x k : Nat) : Int)) → Wf K d mX2_tabulate 28 [some (vR a), some (vR t), some (vI (n : Int)), some (vI ((i : Int) - 1)), none] [] V' (fun r V' => r = none ∧ (∀ c, c ≤ t ∨ t + 12 ≤ c → V' c = V c) ∧ ∀ i k, i ≤ n → k ≤ n → V' (t + 1 + i) k = ((ctn (V (a + 1)) n i k : Nat) : Int)) := by
    intro i
    induction i with
    | zero =>
      intro _ V' g1 g2
      exact sX2_tabulate_28 a t 11 _ _ h0 h1 ⟨fun _ => ⟨rfl, g1, fun i k hi hk => g2 i k (Nat.zero_le _) hi hk⟩, fun c => by omega⟩
    | succ i ih =>
      intro hi V' g1 g2
      rw [show ((i + 1 : Nat) : Int) - 1 = (i : Int) by omega]
      refine sX2_tabulate_28 a t 11 _ _ h0 h1 ⟨fun c => by omega, fun _ => ?_⟩
      have wqC : ∀ k, k ≤ n + 1 → ∀ V2 : Mem, (∀ c, c ≤ t ∨ t + 12 ≤ c → V2 c = V c) → (∀ x k, i < x → x ≤ n → k ≤ n → V2 (t + 1 + x) k = ((ctn (V (a + 1)) n x k : Nat) : Int)) → (∀ y, y < k → V2 (t + 1 + i) y = ((ctn (V (a + 1)) n i y : Nat) : Int)) → Wf K d mX2_tabulate 35 [some (vR a), some (vR t), some (vI (n : Int)), some (vI (i : Int)), some (vI (k : Int))] [] V2 (fun r V' => r = none ∧ (∀ c, c ≤ t ∨ t + 12 ≤ c → V' c = V c) ∧ ∀ i k, i ≤ n → k ≤ n → V' (t + 1 + i) k = ((ctn (V (a + 1)) n i k : Nat) : Int)) := by
        refine up_ind ?_ ?_
        · intro V2 j1 j2 j3
          refine sX2_tabulate_35 a t 11 _ _ _ h0 h1 ⟨fun _ => ?_, fun c => absurd (by omega) c⟩
          rw [show w32 ((i : Int) + (-1)) = (i : Int) - 1 by rw [w32_id (by omega) (by omega)]; omega]
          refine ih (by omega) V2 j1 (fun x k q1 q2 q3 => ?_)
          by_cases c : x = i
          · rw [c]; exact j3 k (by omega)
          · exact j2 x k (by omega) q2 q3
        · intro k hk ih2 V2 j1 j2 j3
          refine sX2_tabulate_35 a t 11 _ _ _ h0 h1 ⟨fun c => by omega, fun _ => ?_⟩
          have b := ctn_le (e := V (a + 1)) (n := n) (i := i + 1) (k := k)
          rw [w32_s (i := i) (by omega), w32_s (i := k) (by omega), tn, tn, tn, Nat.one_mul, Nat.one_mul, j2 (i + 1) k (by omega) (by omega) (by omega), j1 (a + 1) (by omega)]
          have hs := ctn_s (e := V (a + 1)) (n := n) (i := i) (k := k) (by omega)
          generalize ctn (V (a + 1)) n (i + 1) k = y at *
          rw [w32_s (i := y) (by omega), w32_id (x := (y : Int) + 0) (by omega) (by omega)]
          have fin : ∀ z : Int, z = ((ctn (V (a + 1)) n i k : Nat) : Int) → Wf K d mX2_tabulate 35 [some (vR a), some (vR t), some (vI (n : Int)), some (vI (i : Int)), some (vI ((k + 1 : Nat) : Int))] [] (upm V2 (t + 1 + i) k z) (fun r V' => r = none ∧ (∀ c, c ≤ t ∨ t + 12 ≤ c → V' c = V c) ∧ ∀ i k, i ≤ n → k ≤ n → V' (t + 1 + i) k = ((ctn (V (a + 1)) n i k : Nat) : Int)) := by
            intro z hz
            refine ih2 _ (fun c q => by rw [upm_off c (by omega)]; exact j1 c q) (fun x y q1 q2 q3 => by rw [upm_a (by omega)]; exact j2 x y q1 q2 q3) (fun y hy => ?_)
            by_cases c : y = k
            · rw [c, upm_s]; exact hz
            · rw [upm_k c]; exact j3 y (by omega)
          refine ⟨⟨by omega, by omega⟩, ⟨by omega, by omega⟩, ⟨by omega, by omega⟩, ⟨by omega, by omega⟩, fun c => ⟨⟨by omega, by omega⟩, fin _ ?_⟩, fun c => ⟨⟨by omega, by omega⟩, fin _ ?_⟩⟩
          · rw [hs, if_neg (by omega)]; omega
          · rw [hs, if_pos (by omega)]; omega
      exact wqC 0 (by omega) V' g1 (fun x k q1 q2 q3 => g2 x k (by omega) q2 q3) (fun y hy => absurd hy (Nat.not_lt_zero y))
  have wqA : ∀ k, k ≤ n + 1 → ∀ V' : Mem, (∀ c, c ≤ t ∨ t + 12 ≤ c → V' c = V c) → (∀ y, y < k → V' (t + 1 + n) y = 0) → Wf K d mX2_tabulate 7 [some (vR a), some (vR t), some (vI (n : Int)), some (vI (k : Int)), none] [] V' (fun r V' => r = none ∧ (∀ c, c ≤ t ∨ t + 12 ≤ c → V' c = V c) ∧ ∀ i k, i ≤ n → k ≤ n → V' (t + 1 + i) k = ((ctn (V (a + 1)) n i k : Nat) : Int)) := by
    refine up_ind ?_ ?_
    · intro V' g1 g2
      refine sX2_tabulate_7 a t 11 _ _ h0 h1 ⟨fun _ => ?_, fun c => absurd (by omega) c⟩
      rw [w32_id (x := (n : Int) - 1) (by omega) (by omega)]
      refine wqB n (Nat.le_refl _) V' g1 (fun x k q1 q2 q3 => ?_)
      rw [show x = n by omega, ctn_n]
      exact g2 k (by omega)
    · intro k hk ih V' g1 g2
      refine sX2_tabulate_7 a t 11 _ _ h0 h1 ⟨fun c => by omega, fun _ => ⟨⟨by omega, by omega⟩, ⟨by omega, by omega⟩, ?_⟩⟩
      rw [w32_s (i := k) (by omega), tn, tn, Nat.one_mul]
      refine ih _ (fun c q => by rw [upm_off c (by omega)]; exact g1 c q) (fun y hy => ?_)
      by_cases c : y = k
      · rw [c, upm_s]
      · rw [upm_k c]; exact g2 y (by omega)
  exact wqA 0 (by omega) V (fun _ _ => rfl) (fun y hy => absurd hy (Nat.not_lt_zero y))
theorem c_leastBetween {n i k : Nat} {A B : Nat → Nat → Nat} (h10 : n ≤ 10) (hi : i ≤ n) (hk : k ≤ n) (hA : ∀ j, j ≤ n → V (210 + i) j = ((A i j : Nat) : Int) ∧ A i j ≤ 10) (hB : ∀ j, j ≤ n → V (222 + j) k = ((B j k : Nat) : Int) ∧ B j k ≤ 10) : Pu K (d + 1) mX2_leastBetween [vR 204, vI (i : Int), vI (k : Int), vI (n : Int)] V ((mpr n A B i k : Nat) : Int) := by
  have sm : ∀ j, j ≤ n → w32 (V (210 + 1 * Int.toNat (i : Int)) (Int.toNat (j : Int)) + V (222 + 1 * Int.toNat (j : Int)) (Int.toNat (k : Int))) = ((A i j + B j k : Nat) : Int) := fun j hj => by
    have h1 := hA j hj
    have h2 := hB j hj
    rw [tn, tn, tn, Nat.one_mul, Nat.one_mul, h1.1, h2.1, w32_id (by omega) (by omega)]
    omega
  refine sX2_leastBetween _ _ _ ⟨⟨by omega, by omega⟩, ⟨by omega, by omega⟩, ⟨by omega, by omega⟩, ?_⟩
  have s0 := sm 0 (Nat.zero_le _)
  rw [show (Int.toNat ((0 : Nat) : Int)) = 0 from rfl] at s0
  rw [show (Int.toNat (0 : Int)) = 0 from rfl, s0]
  unfold mpr
  generalize hf : (fun j => A i j + B j k) = f at *
  have hfe : ∀ j, A i j + B j k = f j := fun j => by rw [← hf]
  rw [hfe 0]
  have wqA : ∀ j, j ≤ n + 1 → 1 ≤ j → Wf K (d + 1) mX2_leastBetween 22 [some (vR 204), some (vI (i : Int)), some (vI (k : Int)), some (vI (n : Int)), some (vI ((mnk f (j - 1) : Nat) : Int)), some (vI (j : Int))] [] V (fun r V' => ∃ z, r = some (vI z) ∧ z = ((mnk f n : Nat) : Int) ∧ V' = V) := by
    refine up_ind ?_ ?_
    · intro _
      exact sX2_leastBetween_22 _ _ _ _ _ ⟨fun _ => ⟨_, rfl, rfl, rfl⟩, fun c => absurd (by omega) c⟩
    · intro j hj ih h1
      obtain ⟨u, rfl⟩ : ∃ u, j = u + 1 := ⟨j - 1, by omega⟩
      refine sX2_leastBetween_22 _ _ _ _ _ ⟨fun c => by omega, fun _ => ⟨⟨by omega, by omega⟩, ⟨by omega, by omega⟩, ⟨by omega, by omega⟩, ⟨by omega, by omega⟩, ?_⟩⟩
      rw [sm (u + 1) (by omega), hfe (u + 1), w32_s (i := u + 1) (by omega)]
      have e : min ((mnk f (u + 1 - 1) : Nat) : Int) ((f (u + 1) : Nat) : Int) = ((mnk f (u + 1 + 1 - 1) : Nat) : Int) := by
        show min ((mnk f u : Nat) : Int) ((f (u + 1) : Nat) : Int) = ((min (mnk f u) (f (u + 1)) : Nat) : Int)
        generalize mnk f u = x
        generalize f (u + 1) = y
        omega
      rw [e]
      exact ih (by omega)
  exact wqA 1 (by omega) (Nat.le_refl _)
theorem c_endOf {n s r : Nat} {C : Nat → Nat → Nat} (h10 : n ≤ 10) (hs : s < n) (hC : ∀ i k, i ≤ n → k ≤ n → V (234 + i) k = ((C i k : Nat) : Int) ∧ C i k ≤ 10) (h1 : r < n) (h2 : utn C s r = 1) (h3 : ∀ k, k < n → k ≠ r → utn C s k = 0) : Pu K d mX2_endOf [vR 204, vI (s : Int), vI (n : Int)] V (r : Int) := by
  refine sX2_endOf _ _ ?_
  have wqA : ∀ k, k ≤ r → Wf K d mX2_endOf 2 [some (vR 204), some (vI (s : Int)), some (vI (n : Int)), some (vI (k : Int)), none] [] V (fun rr V' => ∃ z, rr = some (vI z) ∧ z = (r : Int) ∧ V' = V) := by
    have key : ∀ k, k < n → ∀ Q : Prop, ((¬ utn C s k = 1 → Wf K d mX2_endOf 2 [some (vR 204), some (vI (s : Int)), some (vI (n : Int)), some (vI ((k + 1 : Nat) : Int)), none] [] V (fun rr V' => ∃ z, rr = some (vI z) ∧ z = (r : Int) ∧ V' = V)) ∧ (utn C s k = 1 → (k : Int) = (r : Int))) → Wf K d mX2_endOf 2 [some (vR 204), some (vI (s : Int)), some (vI (n : Int)), some (vI (k : Int)), none] [] V (fun rr V' => ∃ z, rr = some (vI z) ∧ z = (r : Int) ∧ V' = V) := by
      intro k hk _ hq
      refine sX2_endOf_2 _ _ _ ⟨fun c => by omega, fun _ => ?_⟩
      rw [w32_s (i := k) (by omega), w32_s (i := s) (by omega), tn, tn, tn, tn, Nat.one_mul, Nat.one_mul]
      have e1 := hC s (k + 1) (by omega) (by omega)
      have e2 := hC (s + 1) (k + 1) (by omega) (by omega)
      have e3 := hC s k (by omega) (by omega)
      have e4 := hC (s + 1) k (by omega) (by omega)
      have eu : utn C s k = (C s (k + 1) : Int) - C (s + 1) (k + 1) - C s k + C (s + 1) k := rfl
      rw [e1.1, e2.1, e3.1, e4.1, w32_id (x := (C s (k + 1) : Int) - C (s + 1) (k + 1)) (by omega) (by omega), w32_id (x := (C s (k + 1) : Int) - C (s + 1) (k + 1) - C s k) (by omega) (by omega), w32_id (by omega) (by omega), ← eu]
      exact ⟨⟨by omega, by omega⟩, ⟨by omega, by omega⟩, ⟨by omega, by omega⟩, ⟨by omega, by omega⟩, ⟨by omega, by omega⟩, ⟨by omega, by omega⟩, ⟨by omega, by omega⟩, ⟨by omega, by omega⟩, hq.1, fun c => ⟨_, rfl, hq.2 c, rfl⟩⟩
    refine up_ind ?_ ?_
    · exact key r h1 True ⟨fun c => absurd h2 c, fun _ => rfl⟩
    · intro k hk ih
      refine key k (by omega) True ⟨fun _ => ih, fun c => ?_⟩
      rw [h3 k (by omega) (by omega)] at c
      cases c
  exact wqA 0 (Nat.zero_le _)
theorem c_join {a1 a2 a3 n : Nat} (h1 : IsBraid a1) (h2 : IsBraid a2) (h3 : IsBraid a3) (b1 : a1 + 1 < 209) (b2 : a2 + 1 < 209) (b3 : a3 + 1 < 209) (n1 : V a1 2 = n) (n2 : V a2 2 = n) (h10 : n ≤ 10) (p1 : PermOK (V (a1 + 1)) n) (p2 : PermOK (V (a2 + 1)) n) : Mv K (d + 2) mX2_join [vR 204, vR a1, vR a2, vR a3] V (fun V' => (∀ c, c ≠ a3 → c ≠ a3 + 1 → c < 210 ∨ 245 ≤ c → V' c = V c) ∧ (∀ j, j ≠ 2 → V' a3 j = V a3 j) ∧ V' a3 2 = n ∧ ∀ s, s < n → V' (a3 + 1) s = cmp n (V (a1 + 1)) (V (a2 + 1)) s) := by
  refine sX2_join a1 a2 a3 h1 h2 h3 ((c_tabulate (d := d + 1) h1 is209 b1 n1 h10).use (fun V1 ⟨g1, g2⟩ => ?_))
  refine (c_tabulate (d := d + 1) (V := V1) (n := n) h2 is221 (by omega) (by rw [g1 a2 (by omega)]; exact n2) h10).use (fun V2 ⟨k1, k2⟩ => ?_)
  rw [k1 a1 (by omega), g1 a1 (by omega), n1]
  rw [g1 (a2 + 1) (by omega)] at k2
  have uA := ctn_UM p1
  have uB := ctn_UM p2
  have at' := fun (s : Nat) (hs : s < n) => cmp_at p1 p2 (i := s) hs
  generalize ctn (V (a1 + 1)) n = A at *
  generalize ctn (V (a2 + 1)) n = B at *
  have uC := mpr_UM uA uB
  have hA : ∀ i j, i ≤ n → j ≤ n → V2 (210 + i) j = ((A i j : Nat) : Int) ∧ A i j ≤ 10 := fun i j q1 q2 => by
    have := uA.up q1 q2
    exact ⟨by rw [k1 _ (by omega)]; exact g2 i j q1 q2, by omega⟩
  have hB : ∀ i j, i ≤ n → j ≤ n → V2 (222 + i) j = ((B i j : Nat) : Int) ∧ B i j ≤ 10 := fun i j q1 q2 => by
    have := uB.up q1 q2
    exact ⟨k2 i j q1 q2, by omega⟩
  have fr2 : ∀ c, c < 210 ∨ 245 ≤ c → V2 c = V c := fun c hc => by rw [k1 c (by omega), g1 c (by omega)]
  -- the ends
  have wqC : ∀ V4 : Mem, (∀ c, c ≠ a3 → c < 210 ∨ 245 ≤ c → V4 c = V c) → (∀ j, j ≠ 2 → V4 a3 j = V a3 j) → V4 a3 2 = (n : Int) → (∀ i k, i ≤ n → k ≤ n → V4 (234 + i) k = ((mpr n A B i k : Nat) : Int) ∧ mpr n A B i k ≤ 10) → ∀ s, s ≤ n → ∀ V5 : Mem, (∀ c, c ≠ a3 + 1 → V5 c = V4 c) → (∀ t, t < s → V5 (a3 + 1) t = cmp n (V (a1 + 1)) (V (a2 + 1)) t) → Wf K (d + 2) mX2_join 83 [some (vR 204), none, none, some (vR a3), some (vI (n : Int)), some (vI (s : Int)), none] [] V5 (fun r V' => r = none ∧ (∀ c, c ≠ a3 → c ≠ a3 + 1 → c < 210 ∨ 245 ≤ c → V' c = V c) ∧ (∀ j, j ≠ 2 → V' a3 j = V a3 j) ∧ V' a3 2 = n ∧ ∀ s, s < n → V' (a3 + 1) s = cmp n (V (a1 + 1)) (V (a2 + 1)) s) := by
    intro V4 f1 f2 f3 f4
    refine up_ind ?_ ?_
    · intro V5 j1 j2
      exact sX2_join_83 a1 a2 a3 _ _ h1 h2 h3 ⟨fun _ => ⟨rfl, fun c q1 q2 q3 => by rw [j1 c q2]; exact f1 c q1 q3, fun j q => by rw [j1 a3 (by omega)]; exact f2 j q, by rw [j1 a3 (by omega)]; exact f3, j2⟩, fun c => absurd (Int.le_refl _) c⟩
    · intro s hs ih V5 j1 j2
      obtain ⟨r, r1, r2, r3, r4⟩ := at' s hs
      refine sX2_join_83 a1 a2 a3 _ _ h1 h2 h3 ⟨fun c => by omega, fun _ => ?_⟩
      refine (c_endOf (d := d + 1) (V := V5) (C := mpr n A B) h10 hs (fun i k q1 q2 => by rw [j1 _ (by omega)]; exact f4 i k q1 q2) r2 r3 r4).use ⟨⟨by omega, by omega⟩, ?_⟩
      rw [w32_s (i := s) (by omega), tn]
      refine ih _ (fun c q => (upm_off c q).trans (j1 c q)) (fun t ht => ?_)
      by_cases c : t = s
      · rw [c, upm_s, r1]
      · rw [upm_k c]; exact j2 t (by omega)
  -- the least ones
  have wqA : ∀ i, i ≤ n + 1 → ∀ V3 : Mem, (∀ c, c < 234 ∨ 245 ≤ c → V3 c = V2 c) → (∀ x k, x < i → k ≤ n → V3 (234 + x) k = ((mpr n A B x k : Nat) : Int)) → Wf K (d + 2) mX2_join 25 [some (vR 204), none, none, some (vR a3), some (vI (n : Int)), some (vI (i : Int)), none] [] V3 (fun r V' => r = none ∧ (∀ c, c ≠ a3 → c ≠ a3 + 1 → c < 210 ∨ 245 ≤ c → V' c = V c) ∧ (∀ j, j ≠ 2 → V' a3 j = V a3 j) ∧ V' a3 2 = n ∧ ∀ s, s < n → V' (a3 + 1) s = cmp n (V (a1 + 1)) (V (a2 + 1)) s) := by
    refine up_ind ?_ ?_
    · intro V3 j1 j2
      refine sX2_join_25 a1 a2 a3 _ _ h1 h2 h3 ⟨fun _ => ?_, fun c => absurd (by omega) c⟩
      refine wqC _ (fun c q1 q2 => by rw [upm_off c q1, j1 c (by omega)]; exact fr2 c q2) (fun j q => by rw [upm_k q, j1 a3 (by omega), fr2 a3 (by omega)]) (upm_s _ _ _ _) (fun i k q1 q2 => ?_) 0 (Nat.zero_le _) _ (fun _ _ => rfl) (fun t ht => absurd ht (Nat.not_lt_zero t))
      have := uC.up q1 q2
      exact ⟨by rw [upm_a (by omega)]; exact j2 i k (by omega) q2, by omega⟩
    · intro i hi ih V3 j1 j2
      refine sX2_join_25 a1 a2 a3 _ _ h1 h2 h3 ⟨fun c => by omega, fun _ => ?_⟩
      have wqB : ∀ k, k ≤ n + 1 → ∀ V3 : Mem, (∀ c, c < 234 ∨ 245 ≤ c → V3 c = V2 c) → (∀ x k, x < i → k ≤ n → V3 (234 + x) k = ((mpr n A B x k : Nat) : Int)) → (∀ y, y < k → V3 (234 + i) y = ((mpr n A B i y : Nat) : Int)) → Wf K (d + 2) mX2_join 35 [some (vR 204), none, none, some (vR a3), some (vI (n : Int)), some (vI (i : Int)), some (vI (k : Int))] [] V3 (fun r V' => r = none ∧ (∀ c, c ≠ a3 → c ≠ a3 + 1 → c < 210 ∨ 245 ≤ c → V' c = V c) ∧ (∀ j, j ≠ 2 → V' a3 j = V a3 j) ∧ V' a3 2 = n ∧ ∀ s, s < n → V' (a3 + 1) s = cmp n (V (a1 + 1)) (V (a2 + 1)) s) := by
        refine up_ind ?_ ?_
        · intro V3 u1 u2 u3
          refine sX2_join_35 a1 a2 a3 _ _ _ h1 h2 h3 ⟨fun _ => ?_, fun c => absurd (by omega) c⟩
          rw [w32_s (i := i) (by omega)]
          refine ih V3 u1 (fun x k q1 q2 => ?_)
          by_cases c : x = i
          · rw [c]; exact u3 k (by omega)
          · exact u2 x k (by omega) q2
        · intro k hk ih2 V3 u1 u2 u3
          refine sX2_join_35 a1 a2 a3 _ _ _ h1 h2 h3 ⟨fun c => by omega, fun _ => ⟨⟨by omega, by omega⟩, ?_⟩⟩
          refine (c_leastBetween (d := d) (V := V3) (A := A) (B := B) h10 (by omega) (by omega) (fun j hj => by rw [u1 _ (by omega)]; exact hA i j (by omega) hj) (fun j hj => by rw [u1 _ (by omega)]; exact hB j k hj (by omega))).use ⟨⟨by omega, by omega⟩, ?_⟩
          rw [w32_s (i := k) (by omega), tn, tn, Nat.one_mul]
          refine ih2 _ (fun c q => by rw [upm_off c (by omega)]; exact u1 c q) (fun x y q1 q2 => by rw [upm_a (by omega)]; exact u2 x y q1 q2) (fun y hy => ?_)
          by_cases c : y = k
          · rw [c, upm_s]
          · rw [upm_k c]; exact u3 y (by omega)
      exact wqB 0 (by omega) V3 j1 j2 (fun y hy => absurd hy (Nat.not_lt_zero y))
  exact wqA 0 (by omega) V2 (fun _ _ => rfl) (fun x k h => absurd h (Nat.not_lt_zero x))
theorem c_isSame {a b n : Nat} (h0 : IsBraid a) (h1 : IsBraid b) (hn : V a 2 = n) (hn2 : V b 2 = n) (h10 : n ≤ 10) : Mi K d mX0_isSame [vR a, vR b] V (fun z V' => V' = V ∧ ((z = 1 ∧ ∀ s, s < n → V (a + 1) s = V (b + 1) s) ∨ (z = 0 ∧ ∃ s, s < n ∧ V (a + 1) s ≠ V (b + 1) s))) := by
  refine sX0_isSame a b h0 h1 ?_
  have wqA : ∀ s, s ≤ n → (∀ t, t < s → V (a + 1) t = V (b + 1) t) → Wf K d mX0_isSame 2 [some (vR a), some (vR b), some (vI (s : Int))] [] V (fun r V' => ∃ z, r = some (vI z) ∧ V' = V ∧ ((z = 1 ∧ ∀ s, s < n → V (a + 1) s = V (b + 1) s) ∨ (z = 0 ∧ ∃ s, s < n ∧ V (a + 1) s ≠ V (b + 1) s))) := by
    refine up_ind ?_ ?_
    · intro hb
      exact sX0_isSame_2 a b _ h0 h1 ⟨fun _ => ⟨fun c => absurd (hn.trans hn2.symm) c, fun _ => ⟨_, rfl, rfl, Or.inl ⟨rfl, hb⟩⟩⟩, fun c => absurd (by rw [hn]; exact Int.le_refl _) c⟩
    · intro s hs ih hb
      refine sX0_isSame_2 a b _ h0 h1 ⟨fun c => absurd c (by rw [hn]; omega), fun _ => ⟨⟨by omega, by omega⟩, ⟨by omega, by omega⟩, ?_⟩⟩
      rw [tn, w32_s (i := s) (by omega)]
      refine ⟨fun c => ih (fun t ht => ?_), fun c => ⟨_, rfl, rfl, Or.inr ⟨rfl, s, hs, c⟩⟩⟩
      by_cases q : t = s
      · rw [q]; exact c
      · exact hb t (by omega)
  exact wqA 0 (Nat.zero_le _) (fun t ht => absurd ht (Nat.not_lt_zero t))
theorem c_isUnder {a1 a2 n : Nat} (h1 : IsBraid a1) (h2 : IsBraid a2) (b1 : a1 + 1 < 209) (b2 : a2 + 1 < 209) (n1 : V a1 2 = n) (n2 : V a2 2 = n) (h10 : n ≤ 10) : Mi K (d + 1) mX2_isUnder [vR 204, vR a1, vR a2] V (fun z V' => (∀ c, c < 210 ∨ 233 ≤ c → V' c = V c) ∧ ((z = 1 ∧ ∀ i k, i ≤ n → k ≤ n → ctn (V (a1 + 1)) n i k ≤ ctn (V (a2 + 1)) n i k) ∨ (z = 0 ∧ ∃ i k, i ≤ n ∧ k ≤ n ∧ ¬ ctn (V (a1 + 1)) n i k ≤ ctn (V (a2 + 1)) n i k))) := by
  refine sX2_isUnder a1 a2 h1 h2 ((c_tabulate (d := d) h1 is209 b1 n1 h10).use (fun V1 ⟨g1, g2⟩ => ?_))
  refine (c_tabulate (d := d) (V := V1) (n := n) h2 is221 (by omega) (by rw [g1 a2 (by omega)]; exact n2) h10).use (fun V2 ⟨k1, k2⟩ => ?_)
  rw [g1 (a2 + 1) (by omega)] at k2
  generalize ctn (V (a1 + 1)) n = A at *
  generalize ctn (V (a2 + 1)) n = B at *
  have hA : ∀ i j, i ≤ n → j ≤ n → V2 (210 + i) j = ((A i j : Nat) : Int) := fun i j q1 q2 => by rw [k1 _ (by omega)]; exact g2 i j q1 q2
  have hB : ∀ i j, i ≤ n → j ≤ n → V2 (222 + i) j = ((B i j : Nat) : Int) := k2
  have fr2 : ∀ c, c < 210 ∨ 233 ≤ c → V2 c = V c := fun c hc => by rw [k1 c (by omega), g1 c (by omega)]
  have n3 : V2 a1 2 = (n : Int) := by rw [fr2 a1 (by omega)]; exact n1
  have wqA : ∀ i, i ≤ n + 1 → (∀ x y, x < i → y ≤ n → A x y ≤ B x y) → Wf K (d + 1) mX2_isUnder 18 [some (vR 204), some (vR a1), none, some (vI (i : Int)), none] [] V2 (fun r V' => ∃ z, r = some (vI z) ∧ (∀ c, c < 210 ∨ 233 ≤ c → V' c = V c) ∧ ((z = 1 ∧ ∀ i k, i ≤ n → k ≤ n → A i k ≤ B i k) ∨ (z = 0 ∧ ∃ i k, i ≤ n ∧ k ≤ n ∧ ¬ A i k ≤ B i k))) := by
    refine up_ind ?_ ?_
    · intro hb
      exact sX2_isUnder_18 a1 a2 _ h1 h2 ⟨fun _ => ⟨_, rfl, fr2, Or.inl ⟨rfl, fun i k q1 q2 => hb i k (by omega) q2⟩⟩, fun c => absurd (by rw [n3]; omega) c⟩
    · intro i hi ih hb
      refine sX2_isUnder_18 a1 a2 _ h1 h2 ⟨fun c => absurd c (by rw [n3]; omega), fun _ => ?_⟩
      have wqB : ∀ k, k ≤ n + 1 → (∀ y, y < k → A i y ≤ B i y) → Wf K (d + 1) mX2_isUnder 29 [some (vR 204), some (vR a1), none, some (vI (i : Int)), some (vI (k : Int))] [] V2 (fun r V' => ∃ z, r = some (vI z) ∧ (∀ c, c < 210 ∨ 233 ≤ c → V' c = V c) ∧ ((z = 1 ∧ ∀ i k, i ≤ n → k ≤ n → A i k ≤ B i k) ∨ (z = 0 ∧ ∃ i k, i ≤ n ∧ k ≤ n ∧ ¬ A i k ≤ B i k))) := by
        refine up_ind ?_ ?_
        · intro hb2
          refine sX2_isUnder_29 a1 a2 _ _ h1 h2 ⟨fun _ => ?_, fun c => absurd (by rw [n3]; omega) c⟩
          rw [w32_s (i := i) (by omega)]
          refine ih (fun x y q1 q2 => ?_)
          by_cases c : x = i
          · rw [c]; exact hb2 y (by omega)
          · exact hb x y (by omega) q2
        · intro k hk ih2 hb2
          refine sX2_isUnder_29 a1 a2 _ _ h1 h2 ⟨fun c => absurd c (by rw [n3]; omega), fun _ => ⟨⟨by omega, by omega⟩, ⟨by omega, by omega⟩, ⟨by omega, by omega⟩, ⟨by omega, by omega⟩, ?_⟩⟩
          rw [tn, tn, Nat.one_mul, hA i k (by omega) (by omega), hB i k (by omega) (by omega), w32_s (i := k) (by omega)]
          refine ⟨fun c => ih2 (fun y hy => ?_), fun c => ⟨_, rfl, fr2, Or.inr ⟨rfl, i, k, by omega, by omega, by omega⟩⟩⟩
          by_cases q : y = k
          · rw [q]; omega
          · exact hb2 y (by omega)
      exact wqB 0 (by omega) (fun y hy => absurd hy (Nat.not_lt_zero y))
  exact wqA 0 (by omega) (fun x y h => absurd h (Nat.not_lt_zero x))
end CBC
