/-! ===== Chains: measureUp, measureBehind, measure, measureFrom; Windows.fillChains ===== -/
abbrev Fc (V : Mem) (a : Nat) (p q : Nat) : Prop := fol (V a 6) (V (a + 1) p) (V (a + 1) q)
section CME
variable {K : KK} {d : Nat} {V : Mem}
theorem c_measureUp {a lo hi : Nat} (h0 : IsChains a) (hk : 0 ≤ V a 6 ∧ V a 6 ≤ 3) (hs : V a 7 = lo) (he : V a 8 = hi) (hlh : lo ≤ hi) (h20 : hi ≤ 20) : Mv K (d + 2) mX1_measureUp [vR a] V (fun V' => (∀ c, c ≠ a + 3 → V' c = V c) ∧ isEnd (Fc V a) lo hi (V' (a + 3))) := by
  refine sX1_measureUp a h0 ?_
  rw [hs]
  have H : ∀ i, i ≤ hi → lo ≤ i → ∀ V', (∀ c, c ≠ a + 3 → V' c = V c) → isEnd (Fc V a) lo i (V' (a + 3)) → Wf K (d + 2) mX1_measureUp 5 [some (vR a), some (vI (i : Int)), none, none] [] V' (fun r V' => r = none ∧ (∀ c, c ≠ a + 3 → V' c = V c) ∧ isEnd (Fc V a) lo hi (V' (a + 3))) := by
    refine up_ind ?_ ?_
    · intro _ V' hV hE
      refine sX1_measureUp_5 a _ h0 ⟨fun _ => ⟨rfl, hV, hE⟩, fun c => absurd (by rw [hV a (by omega), he]; exact Int.le_refl _) c⟩
    · intro p hp ih hl V' hV hE
      refine sX1_measureUp_5 a _ h0 ⟨fun c => absurd c (by rw [hV a (by omega), he]; omega), fun _ => ?_⟩
      rw [hV a (by omega), hs]
      have H2 : ∀ e, e ≤ p → lo ≤ e → ∀ m, Emx (Fc V a p) (V' (a + 3)) lo e m → Wf K (d + 2) mX1_measureUp 20 [some (vR a), some (vI (p : Int)), some (vI m), some (vI (e : Int))] [] V' (fun r V' => r = none ∧ (∀ c, c ≠ a + 3 → V' c = V c) ∧ isEnd (Fc V a) lo hi (V' (a + 3))) := by
        refine up_ind ?_ ?_
        · intro _ m hm
          have hm20 : m ≤ 20 := by
            rcases hm.2.2 with z | ⟨q, q1, q2, q3, q4⟩
            · omega
            · have := hE.le q q1 q2; omega
          have hm0 := hm.1
          refine sX1_measureUp_20 a _ _ _ h0 ⟨fun _ => ⟨⟨by omega, by omega⟩, ?_⟩, fun c => absurd (Int.le_refl _) c⟩
          rw [w32_s (by omega), tn, w32_id (x := m + 1) (by omega) (by omega)]
          refine ih (by omega) _ (fun c hc => (upm_off c hc).trans (hV c hc)) (hE.push hm (fun q hq => upm_k (by omega)) (upm_s _ _ _ _))
        · intro e he2 ih2 hle m hm
          have hE1 := hE.ge hle he2
          refine sX1_measureUp_20 a _ _ _ h0 ⟨fun c => absurd c (by omega), fun _ => ⟨⟨by omega, by omega⟩, fun c => ?_, fun c => ?_⟩⟩
          · rw [w32_s (by omega)]
            rw [tn] at c
            exact ih2 (by omega) m (hm.skip (fun _ => c))
          · rw [tn] at c
            refine (c_follows (d := d) h0 (by rw [hV a (by omega)]; exact hk) (by omega) (by omega)).use ⟨fun z => ?_, fun z => ?_⟩
            · rw [w32_s (by omega)]
              refine ih2 (by omega) m (hm.skip (fun q => ?_))
              rw [hV a (by omega), hV (a + 1) (by omega), if_pos q] at z
              cases z
            · refine ⟨⟨by omega, by omega⟩, ?_⟩
              rw [w32_s (by omega), tn]
              refine ih2 (by omega) _ (hm.take hle ?_ (by omega))
              rw [hV a (by omega), hV (a + 1) (by omega)] at z
              exact Decidable.byContradiction (fun q => z (if_neg q))
      exact H2 lo hl (Nat.le_refl _) 0 (Emx.nil (Nat.le_refl _))
  exact H lo hlh (Nat.le_refl _) V (fun _ _ => rfl) (isEnd.nil (Nat.le_refl _))
theorem c_measureBehind {a lo hi : Nat} (h0 : IsChains a) (hk : 0 ≤ V a 6 ∧ V a 6 ≤ 3) (hs : V a 7 = lo) (he : V a 8 = hi) (hlh : lo ≤ hi) (h20 : hi ≤ 20) : Mv K (d + 2) mX1_measureBehind [vR a] V (fun V' => (∀ c, c ≠ a + 2 → V' c = V c) ∧ isSta (Fc V a) lo hi (V' (a + 2))) := by
  refine sX1_measureBehind a h0 ?_
  rw [he, w32_id (by omega) (by omega)]
  have H : ∀ k, ∀ i, i = lo + k → i ≤ hi → ∀ V', (∀ c, c ≠ a + 2 → V' c = V c) → isSta (Fc V a) i hi (V' (a + 2)) → Wf K (d + 2) mX1_measureBehind 7 [some (vR a), some (vI ((i : Int) - 1)), none, none] [] V' (fun r V' => r = none ∧ (∀ c, c ≠ a + 2 → V' c = V c) ∧ isSta (Fc V a) lo hi (V' (a + 2))) := by
    refine dn_ind ?_ ?_
    · intro i hi0 _ V' hV hE
      refine sX1_measureBehind_7 a _ h0 ⟨fun _ => ⟨rfl, hV, by rw [show lo = i by omega]; exact hE⟩, fun c => absurd (by rw [hV a (by omega), hs]; omega) c⟩
    · intro k ih i hik hih V' hV hE
      obtain ⟨p, rfl⟩ : ∃ p, i = p + 1 := ⟨lo + k, by omega⟩
      have e1 : ((p + 1 : Nat) : Int) - 1 = (p : Int) := by omega
      rw [e1]
      refine sX1_measureBehind_7 a _ h0 ⟨fun c => absurd c (by rw [hV a (by omega), hs]; omega), fun _ => ?_⟩
      rw [w32_s (by omega)]
      have H2 : ∀ e, e ≤ hi → p + 1 ≤ e → ∀ m, Emx (fun q => Fc V a q p) (V' (a + 2)) (p + 1) e m → Wf K (d + 2) mX1_measureBehind 21 [some (vR a), some (vI (p : Int)), some (vI m), some (vI (e : Int))] [] V' (fun r V' => r = none ∧ (∀ c, c ≠ a + 2 → V' c = V c) ∧ isSta (Fc V a) lo hi (V' (a + 2))) := by
        refine up_ind ?_ ?_
        · intro _ m hm
          have hm20 : m ≤ 20 := by
            rcases hm.2.2 with z | ⟨q, q1, q2, q3, q4⟩
            · omega
            · have := hE.le _ q rfl q1 q2; omega
          have hm0 := hm.1
          refine sX1_measureBehind_21 a _ _ _ h0 ⟨fun _ => ⟨⟨by omega, by omega⟩, ?_⟩, fun c => absurd (by rw [hV a (by omega), he]; exact Int.le_refl _) c⟩
          rw [tn, w32_id (x := m + 1) (by omega) (by omega), w32_id (x := (p : Int) + (-1)) (by omega) (by omega)]
          exact ih p (by omega) (by omega) _ (fun c hc => (upm_off c hc).trans (hV c hc)) (hE.push hm (fun q hq => upm_k (by omega)) (upm_s _ _ _ _))
        · intro e he2 ih2 hle m hm
          have hE1 := hE.ge hle he2
          refine sX1_measureBehind_21 a _ _ _ h0 ⟨fun c => absurd c (by rw [hV a (by omega), he]; omega), fun _ => ⟨⟨by omega, by omega⟩, fun c => ?_, fun c => ?_⟩⟩
          · rw [w32_s (by omega)]
            rw [tn] at c
            exact ih2 (by omega) m (hm.skip (fun _ => c))
          · rw [tn] at c
            refine (c_follows (d := d) h0 (by rw [hV a (by omega)]; exact hk) (by omega) (by omega)).use ⟨fun z => ?_, fun z => ?_⟩
            · rw [w32_s (by omega)]
              refine ih2 (by omega) m (hm.skip (fun q => ?_))
              rw [hV a (by omega), hV (a + 1) (by omega), if_pos q] at z
              cases z
            · refine ⟨⟨by omega, by omega⟩, ?_⟩
              rw [w32_s (by omega), tn]
              refine ih2 (by omega) _ (hm.take hle ?_ (by omega))
              rw [hV a (by omega), hV (a + 1) (by omega)] at z
              exact Decidable.byContradiction (fun q => z (if_neg q))
      exact H2 (p + 1) (by omega) (Nat.le_refl _) 0 (Emx.nil (Nat.le_refl _))
  exact H (hi - lo) hi (by omega) (Nat.le_refl _) V (fun _ _ => rfl) (isSta.nil (Nat.le_refl _))
/-- behind measure(lo, hi): upTo and behind of the window, its length -/
theorem c_measure {a lo hi n : Nat} (h0 : IsChains a) (hk : 0 ≤ V a 6 ∧ V a 6 ≤ 3) (hn : V a 4 = n) (hlh : lo ≤ hi) (hh : hi ≤ n) (h20 : n ≤ 20) : Mv K (d + 3) mX1_measure [vR a, vI (lo : Int), vI (hi : Int)] V (fun V' => (∀ c, c ≠ a → c ≠ a + 2 → c ≠ a + 3 → V' c = V c) ∧ (∀ j, j < 5 ∨ j = 6 → V' a j = V a j) ∧ V' a 7 = lo ∧ V' a 8 = hi ∧ isEnd (Fc V a) lo hi (V' (a + 3)) ∧ isSta (Fc V a) lo hi (V' (a + 2)) ∧ V' a 5 = lw (Fc V a) lo hi) := by
  refine sX1_measure a lo hi h0 ?_
  have e1 : max (lo : Int) 0 = (lo : Int) := by omega
  have e2 : min (hi : Int) ((upm V a 7 (lo : Int)) a 4) = (hi : Int) := by rw [upm_k (by omega), hn]; omega
  rw [e1, e2]
  generalize hV0 : upm (upm V a 7 (lo : Int)) a 8 (hi : Int) = V0
  have g7 : V0 a 7 = lo := by rw [← hV0, upm_k (by omega), upm_s]
  have g8 : V0 a 8 = hi := by rw [← hV0, upm_s]
  have gj : ∀ j, j ≠ 7 → j ≠ 8 → V0 a j = V a j := fun j h1 h2 => by rw [← hV0, upm_k h2, upm_k h1]
  have gc : ∀ c, c ≠ a → V0 c = V c := fun c hc => by rw [← hV0, upm_off c hc, upm_off c hc]
  have gF : Fc V0 a = Fc V a := by funext p q; unfold Fc; rw [gj 6 (by omega) (by omega), gc (a + 1) (by omega)]
  refine (c_measureUp (d := d) h0 (by rw [gj 6 (by omega) (by omega)]; exact hk) g7 g8 hlh (by omega)).use (fun V1 ⟨k1, k2⟩ => ?_)
  have g1F : Fc V1 a = Fc V a := by rw [← gF]; funext p q; unfold Fc; rw [k1 a (by omega), k1 (a + 1) (by omega)]
  refine (c_measureBehind (d := d) (lo := lo) (hi := hi) h0 (by rw [k1 a (by omega), gj 6 (by omega) (by omega)]; exact hk) (by rw [k1 a (by omega)]; exact g7) (by rw [k1 a (by omega)]; exact g8) hlh (by omega)).use (fun V2 ⟨r1, r2⟩ => ?_)
  rw [g1F] at r2
  rw [gF] at k2
  have hE : isEnd (Fc V a) lo hi (V2 (a + 3)) := by rw [r1 (a + 3) (by omega)]; exact k2
  have H : ∀ i, i ≤ hi → lo ≤ i → ∀ V', (∀ c, c ≠ a → V' c = V2 c) → (∀ j, j ≠ 5 → V' a j = V2 a j) → Emx (fun _ => True) (V2 (a + 3)) lo i (V' a 5) → Wf K (d + 3) mX1_measure 39 [some (vR a), none, none, some (vI (i : Int))] [] V' (fun r V' => r = none ∧ (∀ c, c ≠ a → c ≠ a + 2 → c ≠ a + 3 → V' c = V c) ∧ (∀ j, j < 5 ∨ j = 6 → V' a j = V a j) ∧ V' a 7 = lo ∧ V' a 8 = hi ∧ isEnd (Fc V a) lo hi (V' (a + 3)) ∧ isSta (Fc V a) lo hi (V' (a + 2)) ∧ V' a 5 = lw (Fc V a) lo hi) := by
    refine up_ind ?_ ?_
    · intro _ V' c1 c2 c3
      refine sX1_measure_39 a _ h0 ⟨fun _ => ⟨rfl, fun c q1 q2 q3 => ?_, fun j hj => ?_, ?_, ?_, ?_, ?_, (lw_eq hE c3).symm⟩, fun c => absurd (by rw [c2 8 (by omega), r1 a (by omega), k1 a (by omega), g8]; exact Int.le_refl _) c⟩
      · rw [c1 c q1, r1 c q2, k1 c q3, gc c q1]
      · rw [c2 j (by omega), r1 a (by omega), k1 a (by omega), gj j (by omega) (by omega)]
      · rw [c2 7 (by omega), r1 a (by omega), k1 a (by omega), g7]
      · rw [c2 8 (by omega), r1 a (by omega), k1 a (by omega), g8]
      · rw [c1 (a + 3) (by omega)]; exact hE
      · rw [c1 (a + 2) (by omega)]; exact r2
    · intro i hi2 ih hl V' c1 c2 c3
      refine sX1_measure_39 a _ h0 ⟨fun c => absurd c (by rw [c2 8 (by omega), r1 a (by omega), k1 a (by omega), g8]; omega), fun _ => ⟨⟨by omega, by omega⟩, ?_⟩⟩
      rw [w32_s (by omega), tn, c1 (a + 3) (by omega)]
      refine ih (by omega) _ (fun c hc => (upm_off c hc).trans (c1 c hc)) (fun j hj => (upm_k hj).trans (c2 j hj)) ?_
      rw [upm_s]
      rcases Int.le_total (V' a 5) (V2 (a + 3) i) with q | q
      · rw [Int.max_eq_right q]; exact c3.take hl trivial q
      · rw [Int.max_eq_left q]; exact c3.skip (fun _ => q)
  have e3 : (upm V2 a 5 0) a 7 = (lo : Int) := by rw [upm_k (by omega), r1 a (by omega), k1 a (by omega), g7]
  rw [e3]
  exact H lo hlh (Nat.le_refl _) _ (fun c hc => upm_off c hc) (fun j hj => upm_k hj) (by rw [upm_s]; exact Emx.nil (Nat.le_refl _))
/-- measureFrom(lo, into): the lengths of the windows from lo, by their ends -/
theorem c_measureFrom {a lo n b : Nat} (h0 : IsChains a) (hb : SH[b]? = some (14, 21, [])) (hba : b ≠ a ∧ b ≠ a + 1 ∧ b ≠ a + 3) (hk : 0 ≤ V a 6 ∧ V a 6 ≤ 3) (hn : V a 4 = n) (hlh : lo ≤ n) (h20 : n ≤ 20) : Mv K (d + 3) mX1_measureFrom [vR a, vI (lo : Int), vR b] V (fun V' => (∀ c, c ≠ a → c ≠ a + 3 → c ≠ b → V' c = V c) ∧ (∀ j, j < 7 → V' a j = V a j) ∧ ∀ j, lo ≤ j → j ≤ n → V' b j = lw (Fc V a) lo j) := by
  refine sX1_measureFrom a lo b 21 h0 hb (by decide) ?_
  have e1 : max (lo : Int) 0 = (lo : Int) := by omega
  have e2 : (upm V a 7 (lo : Int)) a 4 = (n : Int) := by rw [upm_k (by omega), hn]
  rw [e1, e2]
  generalize hV0 : upm (upm V a 7 (lo : Int)) a 8 (n : Int) = V0
  have g7 : V0 a 7 = lo := by rw [← hV0, upm_k (by omega), upm_s]
  have g8 : V0 a 8 = n := by rw [← hV0, upm_s]
  have gj : ∀ j, j ≠ 7 → j ≠ 8 → V0 a j = V a j := fun j h1 h2 => by rw [← hV0, upm_k h2, upm_k h1]
  have gc : ∀ c, c ≠ a → V0 c = V c := fun c hc => by rw [← hV0, upm_off c hc, upm_off c hc]
  have gF : Fc V0 a = Fc V a := by funext p q; unfold Fc; rw [gj 6 (by omega) (by omega), gc (a + 1) (by omega)]
  refine (c_measureUp (d := d) h0 (by rw [gj 6 (by omega) (by omega)]; exact hk) g7 g8 hlh (by omega)).use (fun V1 ⟨k1, k2⟩ => ?_)
  rw [gF] at k2
  have H : ∀ i, i ≤ n + 1 → lo ≤ i → ∀ V' m, (∀ c, c ≠ b → V' c = V1 c) → (∀ j, lo ≤ j → j < i → V' b j = lw (Fc V a) lo j) → (i ≤ n → Emx (fun _ => True) (V1 (a + 3)) lo i m) → Wf K (d + 3) mX1_measureFrom 29 [some (vR a), none, some (vR b), some (vI m), some (vI (i : Int))] [] V' (fun r V' => r = none ∧ (∀ c, c ≠ a → c ≠ a + 3 → c ≠ b → V' c = V c) ∧ (∀ j, j < 7 → V' a j = V a j) ∧ ∀ j, lo ≤ j → j ≤ n → V' b j = lw (Fc V a) lo j) := by
    refine up_ind ?_ ?_
    · intro _ V' m c1 c2 c3
      refine sX1_measureFrom_29 a b 21 _ _ h0 hb (by decide) ⟨fun _ => ⟨rfl, fun c q1 q2 q3 => ?_, fun j hj => ?_, fun j h1 h2 => c2 j h1 (by omega)⟩, fun c => absurd (by rw [c1 a (by omega), k1 a (by omega), g8]; omega) c⟩
      · rw [c1 c q3, k1 c q2, gc c q1]
      · rw [c1 a (by omega), k1 a (by omega), gj j (by omega) (by omega)]
    · intro i hi2 ih hl V' m c1 c2 c3
      have hm := c3 (by omega)
      have hlw : lw (Fc V a) lo i = m := lw_eq (k2.mono (by omega)) hm
      refine sX1_measureFrom_29 a b 21 _ _ h0 hb (by decide) ⟨fun c => absurd c (by rw [c1 a (by omega), k1 a (by omega), g8]; omega), fun _ => ⟨fun c => by omega, fun _ => ⟨⟨by omega, by omega⟩, ?_⟩⟩⟩
      rw [tn, upm_a (b := a) (by omega), c1 a (by omega), k1 a (by omega), g8, upm_a (b := a + 3) (by omega), c1 (a + 3) (by omega), w32_s (by omega)]
      have c2' : ∀ j, lo ≤ j → j < i + 1 → upm V' b i m b j = lw (Fc V a) lo j := fun j h1 h2 => by
        rcases Nat.lt_or_ge j i with q | q
        · rw [upm_k (by omega)]; exact c2 j h1 q
        · rw [show j = i by omega, upm_s, hlw]
      refine ⟨fun c => ?_, fun c => ⟨⟨by omega, by omega⟩, ?_⟩⟩
      · exact ih (by omega) _ _ (fun c hc => (upm_off c hc).trans (c1 c hc)) c2' (fun h => by omega)
      · refine ih (by omega) _ _ (fun c hc => (upm_off c hc).trans (c1 c hc)) c2' (fun _ => ?_)
        rcases Int.le_total m (V1 (a + 3) i) with q | q
        · rw [Int.max_eq_right q]; exact hm.take hl trivial q
        · rw [Int.max_eq_left q]; exact hm.skip (fun _ => q)
  have e3 : V1 a 7 = (lo : Int) := by rw [k1 a (by omega), g7]
  rw [e3]
  exact H lo (by omega) (Nat.le_refl _) _ _ (fun c hc => rfl) (fun j h1 h2 => by omega) (fun _ => Emx.nil (Nat.le_refl _))
theorem c_fillChains {a n : Nat} (h0 : IsChains a) (ha : a + 3 < 156) (hk : 0 ≤ V a 6 ∧ V a 6 ≤ 3) (hn : V a 4 = n) (h20 : n ≤ 20) : Mv K (d + 4) mX10_fillChains [vR 156, vR a] V (fun V' => (∀ c, c ≠ a → c ≠ a + 3 → (c < 156 ∨ 179 ≤ c) → V' c = V c) ∧ (∀ j, j < 7 → V' a j = V a j) ∧ V' 156 2 = n ∧ ∀ i j, i ≤ j → j ≤ n → V' (158 + i) j = lw (Fc V a) i j) := by
  refine sX10_fillChains a h0 ?_
  rw [hn]
  have H : ∀ i, i ≤ n + 1 → ∀ V', (∀ c, c ≠ a → c ≠ a + 3 → (c < 156 ∨ 179 ≤ c) → V' c = V c) → (∀ j, j < 7 → V' a j = V a j) → V' 156 2 = (n : Int) → (∀ i' j, i' < i → i' ≤ j → j ≤ n → V' (158 + i') j = lw (Fc V a) i' j) → Wf K (d + 4) mX10_fillChains 10 [some (vR 156), some (vR a), some (vI (i : Int))] [] V' (fun r V' => r = none ∧ (∀ c, c ≠ a → c ≠ a + 3 → (c < 156 ∨ 179 ≤ c) → V' c = V c) ∧ (∀ j, j < 7 → V' a j = V a j) ∧ V' 156 2 = n ∧ ∀ i j, i ≤ j → j ≤ n → V' (158 + i) j = lw (Fc V a) i j) := by
    refine up_ind ?_ ?_
    · intro V' c1 c2 c3 c4
      refine sX10_fillChains_10 a _ h0 ⟨fun _ => ⟨rfl, c1, c2, c3, fun i j h1 h2 => c4 i j (by omega) h1 h2⟩, fun c => absurd (by rw [c3]; omega) c⟩
    · intro i hi2 ih V' c1 c2 c3 c4
      refine sX10_fillChains_10 a _ h0 ⟨fun c => absurd c (by rw [c3]; omega), fun _ => ⟨fun c => by omega, fun _ => ⟨⟨by omega, by omega⟩, ?_⟩⟩⟩
      rw [tn, Nat.one_mul, w32_s (by omega)]
      have gF : Fc V' a = Fc V a := by funext p q; unfold Fc; rw [c2 6 (by omega), c1 (a + 1) (by omega) (by omega) (by omega)]
      have hb : SH[158 + i]? = some (14, 21, []) := by
        have := arr157 (k := (i : Int)) ⟨by omega, by omega⟩
        rw [tn, Nat.one_mul] at this
        exact this
      refine (c_measureFrom (d := d) (lo := i) (n := n) h0 hb ⟨by omega, by omega, by omega⟩ (by rw [c2 6 (by omega)]; exact hk) (by rw [c2 4 (by omega)]; exact hn) (by omega) h20).use (fun V2 ⟨k1, k2, k3⟩ => ?_)
      rw [gF] at k3
      refine ih V2 (fun c q1 q2 q3 => (k1 c q1 q2 (by omega)).trans (c1 c q1 q2 q3)) (fun j hj => (k2 j hj).trans (c2 j hj)) ((by rw [k1 156 (by omega) (by omega) (by omega)]; exact c3)) (fun i' j h1 h2 h3 => ?_)
      rcases Nat.lt_or_ge i' i with q | q
      · rw [k1 (158 + i') (by omega) (by omega) (by omega)]; exact c4 i' j q h2 h3
      · have : i' = i := by omega
        subst this
        exact k3 j h2 h3
  refine H 0 (by omega) _ (fun c q1 q2 q3 => upm_off c (by omega)) (fun j hj => upm_a (by omega)) (upm_s _ _ _ _) (fun i' j h1 => by omega)
end CME
