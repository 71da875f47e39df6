/-! ===== the reference's findsStarting and findsLongs ===== -/
section CML
variable {K : KK} {d : Nat} {V : Mem}
theorem m_findsStarting {lo hi : Nat} (hk : 0 ≤ V 369 22 ∧ V 369 22 ≤ 3) (hlh : lo ≤ hi) (h20 : hi ≤ 20) : Mv K (d + 1) mX12_findsStarting [vR 369, vI (lo : Int), vI (hi : Int)] V (fun V' => (∀ c, c ≠ 386 → V' c = V c) ∧ isSta (Fm V) lo hi (V' 386)) := by
  refine sX12_findsStarting lo hi ?_
  rw [w32_id (by omega) (by omega)]
  have wqA : ∀ k, ∀ i, i = lo + k → i ≤ hi → ∀ V' : Mem, (∀ c, c ≠ 386 → V' c = V c) → isSta (Fm V) i hi (V' 386) → Wf K (d + 1) mX12_findsStarting 4 [some (vR 369), some (vI (lo : Int)), some (vI (hi : Int)), some (vI ((i : Int) - 1)), none] [] V' (fun r V' => r = none ∧ (∀ c, c ≠ 386 → V' c = V c) ∧ isSta (Fm V) lo hi (V' 386)) := by
    refine dn_ind ?_ ?_
    · intro i hi0 _ V' hV hE
      exact sX12_findsStarting_4 _ _ _ ⟨fun _ => ⟨rfl, hV, by rw [show lo = i by omega]; exact hE⟩, fun c => absurd (by omega) c⟩
    · intro k ih i hik hih V' hV hE
      obtain ⟨p, rfl⟩ : ∃ p, i = p + 1 := ⟨lo + k, by omega⟩
      have e1 : ((p + 1 : Nat) : Int) - 1 = (p : Int) := by omega
      rw [e1]
      refine sX12_findsStarting_4 _ _ _ ⟨fun c => by omega, fun _ => ⟨⟨by omega, by omega⟩, ?_⟩⟩
      rw [w32_s (by omega), tn]
      have wqB : ∀ e, e ≤ hi → p + 1 ≤ e → ∀ (m : Int) (V2 : Mem), (∀ c, c ≠ 386 → V2 c = V c) → (∀ q, q ≠ p → V2 386 q = V' 386 q) → V2 386 p = m + 1 → Emx (fun q => Fm V q p) (V' 386) (p + 1) e m → Wf K (d + 1) mX12_findsStarting 21 [some (vR 369), some (vI (lo : Int)), some (vI (hi : Int)), some (vI (p : Int)), some (vI (e : Int))] [] V2 (fun r V' => r = none ∧ (∀ c, c ≠ 386 → V' c = V c) ∧ isSta (Fm V) lo hi (V' 386)) := by
        refine up_ind ?_ ?_
        · intro _ m V2 g1 g2 g3 g4
          refine sX12_findsStarting_21 _ _ _ _ ⟨fun _ => ?_, fun c => absurd (Int.le_refl _) c⟩
          rw [w32_id (x := (p : Int) + (-1)) (by omega) (by omega)]
          exact ih p (by omega) (by omega) V2 g1 (hE.push g4 (fun q hq => g2 q (by omega)) g3)
        · intro e he ih2 hle m V2 g1 g2 g3 g4
          have hE1 := hE.ge hle he
          have hE2 := hE.le _ e rfl hle he
          have hm0 := g4.1
          have nop : ∀ c, upm V2 386 p (V2 386 p) c = V2 c := fun c => by
            funext j
            unfold upm
            by_cases q : c = 386 ∧ j = p
            · rw [if_pos q, q.1, q.2]
            · rw [if_neg q]
          refine sX12_findsStarting_21 _ _ _ _ ⟨fun c => by omega, fun _ => ⟨⟨by omega, by omega⟩, ⟨by omega, by omega⟩, ?_⟩⟩
          rw [tn, tn]
          refine (m_follows (d := d) (by rw [g1 369 (by omega)]; exact hk) _ _).use ⟨fun z => ⟨⟨by omega, by omega⟩, ⟨by omega, by omega⟩, ?_⟩, fun z => ?_⟩
          · have nF : ¬ Fm V e p := by
              intro q
              rw [g1 369 (by omega), g1 383 (by omega), if_pos q] at z
              cases z
            rw [w32_s (by omega)]
            exact ih2 (by omega) m _ (fun c hc => by rw [nop]; exact g1 c hc) (fun q hq => by rw [nop]; exact g2 q hq) (by rw [nop]; exact g3) (g4.skip (fun q => absurd q nF))
          · have hF : Fm V e p := by
              rw [g1 369 (by omega), g1 383 (by omega)] at z
              exact Decidable.byContradiction (fun q => z (if_neg q))
            rw [g2 e (by omega), g3, w32_id (x := V' 386 e + 1) (by omega) (by omega)]
            refine ⟨⟨by omega, by omega⟩, ⟨by omega, by omega⟩, fun c => ⟨⟨by omega, by omega⟩, ⟨by omega, by omega⟩, ?_⟩, fun c => ⟨⟨by omega, by omega⟩, ⟨by omega, by omega⟩, ?_⟩⟩
            · rw [w32_s (by omega), ← g3]
              exact ih2 (by omega) m _ (fun c hc => by rw [nop]; exact g1 c hc) (fun q hq => by rw [nop]; exact g2 q hq) (by rw [nop]; exact g3) (g4.skip (fun _ => by omega))
            · rw [w32_s (by omega)]
              exact ih2 (by omega) (V' 386 e) _ (fun c hc => by rw [upm_off c hc]; exact g1 c hc) (fun q hq => by rw [upm_k hq]; exact g2 q hq) (upm_s _ _ _ _) (g4.take hle hF (by omega))
      exact wqB (p + 1) (by omega) (Nat.le_refl _) 0 _ (fun c hc => by rw [upm_off c hc]; exact hV c hc) (fun q hq => upm_k hq) (by rw [upm_s]; rfl) (Emx.nil (Nat.le_refl _))
  exact wqA (hi - lo) hi (by omega) (Nat.le_refl _) V (fun _ _ => rfl) (isSta.nil (Nat.le_refl _))
theorem m_findsLongs {n : Nat} (hk : 0 ≤ V 369 22 ∧ V 369 22 ≤ 3) (hn : V 369 23 = n) (h20 : n ≤ 20) : Mv K (d + 2) mX12_findsLongs [vR 369] V (fun V' => (∀ c, c ≠ 384 → c ≠ 385 → c ≠ 387 → V' c = V c) ∧ ∀ i j, i ≤ j → j ≤ n → V' 384 (21 * i + j) = lw (Fm V) i j) := by
  refine sX12_findsLongs ?_
  have wqA : ∀ i, i ≤ n + 1 → ∀ V' : Mem, (∀ c, c ≠ 384 → c ≠ 385 → c ≠ 387 → V' c = V c) → (∀ i' j, i' < i → i' ≤ j → j ≤ n → V' 384 (21 * i' + j) = lw (Fm V) i' j) → Wf K (d + 2) mX12_findsLongs 2 [some (vR 369), some (vI (i : Int)), none, none] [] V' (fun r V' => r = none ∧ (∀ c, c ≠ 384 → c ≠ 385 → c ≠ 387 → V' c = V c) ∧ ∀ i j, i ≤ j → j ≤ n → V' 384 (21 * i + j) = lw (Fm V) i j) := by
    refine up_ind ?_ ?_
    · intro V' hV hT
      exact sX12_findsLongs_2 _ ⟨fun _ => ⟨rfl, hV, fun i j h1 h2 => hT i j (by omega) h1 h2⟩, fun c => absurd (by rw [hV 369 (by omega) (by omega) (by omega), hn]; omega) c⟩
    · intro i hi ih V' hV hT
      refine sX12_findsLongs_2 _ ⟨fun c => absurd c (by rw [hV 369 (by omega) (by omega) (by omega), hn]; omega), fun _ => ?_⟩
      rw [hV 369 (by omega) (by omega) (by omega), hn]
      have gF : Fm V' = Fm V := by funext p q; unfold Fm; rw [hV 369 (by omega) (by omega) (by omega), hV 383 (by omega) (by omega) (by omega)]
      refine (m_findsEnding (d := d) (lo := i) (hi := n) (by rw [hV 369 (by omega) (by omega) (by omega)]; exact hk) (by omega) h20).use (fun V1 ⟨k1, k2, _⟩ => ?_)
      rw [gF] at k2
      have ex : ∀ j : Nat, j ≤ 20 → w32 (w32 (21 * (i : Int)) + (j : Int)) = ((21 * i + j : Nat) : Int) := fun j hj => by
        rw [w32_id (x := 21 * (i : Int)) (by omega) (by omega), w32_id (by omega) (by omega)]; omega
      rw [ex i (by omega), tn, w32_s (by omega)]
      refine ⟨⟨by omega, by omega⟩, ?_⟩
      have wqB : ∀ e, e ≤ n → i ≤ e → ∀ V2 : Mem, (∀ c, c ≠ 384 → V2 c = V1 c) → (∀ i' j, i' < i → i' ≤ j → j ≤ n → V2 384 (21 * i' + j) = lw (Fm V) i' j) → (∀ j, i ≤ j → j ≤ e → V2 384 (21 * i + j) = lw (Fm V) i j) → Emx (fun _ => True) (V1 385) i e (lw (Fm V) i e) → Wf K (d + 2) mX12_findsLongs 35 [some (vR 369), some (vI (i : Int)), some (vI ((e + 1 : Nat) : Int)), none] [] V2 (fun r V' => r = none ∧ (∀ c, c ≠ 384 → c ≠ 385 → c ≠ 387 → V' c = V c) ∧ ∀ i j, i ≤ j → j ≤ n → V' 384 (21 * i + j) = lw (Fm V) i j) := by
        refine up_ind ?_ ?_
        · intro _ V2 g1 g2 g3 g4
          refine sX12_findsLongs_35 _ _ ⟨fun _ => ?_, fun c => absurd (by rw [g1 369 (by omega), k1 369 (by omega) (by omega), hV 369 (by omega) (by omega) (by omega), hn]; omega) c⟩
          rw [w32_s (by omega)]
          refine ih V2 (fun c q1 q2 q3 => by rw [g1 c q1, k1 c q2 q3, hV c q1 q2 q3]) (fun i' j h1 h2 h3 => ?_)
          rcases Nat.lt_or_ge i' i with q | q
          · exact g2 i' j q h2 h3
          · have : i' = i := by omega
            subst this
            exact g3 j h2 h3
        · intro e he ih2 hle V2 g1 g2 g3 g4
          have r1 := lw_r (F := Fm V) (lo := i) (hi := e) hle
          have hE1 := k2.le e hle he
          have hE0 := k2.ge hle he
          have es : w32 (((e + 1 : Nat) : Int) - 1) = (e : Int) := w32_p (by omega)
          refine sX12_findsLongs_35 _ _ ⟨fun c => absurd c (by rw [g1 369 (by omega), k1 369 (by omega) (by omega), hV 369 (by omega) (by omega) (by omega), hn]; omega), fun _ => ?_⟩
          rw [es, ex e (by omega), ex (e + 1) (by omega), tn, tn, tn, g1 385 (by omega), g3 e hle (Nat.le_refl _), w32_s (by omega)]
          have st : ∀ (z : Int), z = lw (Fm V) i (e + 1) → Wf K (d + 2) mX12_findsLongs 35 [some (vR 369), some (vI (i : Int)), some (vI ((e + 1 + 1 : Nat) : Int)), none] [] (upm V2 384 (21 * i + (e + 1)) z) (fun r V' => r = none ∧ (∀ c, c ≠ 384 → c ≠ 385 → c ≠ 387 → V' c = V c) ∧ ∀ i j, i ≤ j → j ≤ n → V' 384 (21 * i + j) = lw (Fm V) i j) ∨ ¬ (Emx (fun _ => True) (V1 385) i (e + 1) (lw (Fm V) i (e + 1))) := by
            intro z hz
            by_cases hm : Emx (fun _ => True) (V1 385) i (e + 1) (lw (Fm V) i (e + 1))
            · refine Or.inl (ih2 (by omega) _ (fun c hc => by rw [upm_off c hc]; exact g1 c hc) (fun i' j h1 h2 h3 => by rw [upm_k (by omega)]; exact g2 i' j h1 h2 h3) (fun j h1 h2 => ?_) hm)
              rcases Nat.lt_or_ge j (e + 1) with q | q
              · rw [upm_k (by omega)]; exact g3 j h1 (by omega)
              · have : j = e + 1 := by omega
                subst this
                rw [upm_s, hz]
            · exact Or.inr hm
          refine ⟨⟨by omega, by omega⟩, ⟨by omega, by omega⟩, fun c => ⟨⟨by omega, by omega⟩, ?_⟩, fun c => ⟨⟨by omega, by omega⟩, ⟨by omega, by omega⟩, ?_⟩⟩
          · have hm := g4.skip (fun _ => c)
            have hz : lw (Fm V) i (e + 1) = lw (Fm V) i e := lw_eq (k2.mono (by omega)) hm
            rcases st (lw (Fm V) i e) hz.symm with q | q
            · exact q
            · exact absurd (by rw [hz]; exact hm) q
          · have hm := g4.take hle trivial (by omega)
            have hz : lw (Fm V) i (e + 1) = V1 385 e := lw_eq (k2.mono (by omega)) hm
            rcases st (V1 385 e) hz.symm with q | q
            · exact q
            · exact absurd (by rw [hz]; exact hm) q
      have z0 : lw (Fm V) i i = 0 := lw_nil (Nat.le_refl _)
      refine wqB i (by omega) (Nat.le_refl _) _ (fun c hc => upm_off c hc) (fun i' j h1 h2 h3 => ?_) (fun j h1 h2 => ?_) (by rw [z0]; exact Emx.nil (Nat.le_refl _))
      · rw [upm_k (by omega), k1 384 (by omega) (by omega)]; exact hT i' j h1 h2 h3
      · have : j = i := by omega
        subst this
        rw [upm_s, z0]
  exact wqA 0 (by omega) V (fun _ _ _ _ => rfl) (fun i' j h1 => by omega)
end CML
