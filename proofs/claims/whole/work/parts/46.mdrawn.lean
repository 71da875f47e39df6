theorem ix210 {k : Nat} (h : k ≤ 20) : w32 (w32 (21 * 0) + (k : Int)) = (k : Int) := by rw [show w32 (21 * 0) = 0 by decide, w32_id (by omega) (by omega)]; omega
section CDS
variable {K : KK} {d : Nat} {V : Mem} {P : Nat → Int × Int} {n R : Nat}
theorem m_drawn (hI : Icore P n R V) (s m b w : Int) : Mi K (d + 5) mX12_drawn [vR 369, vI s, vI m, vI b, vI w] V (fun z V' => FrM V V' ∧ z = if drC s m b w then drR P n s m b w else -1) := by
  obtain ⟨hx, hr0, hR, hC, hlx, hlm, hw⟩ := id hI
  have f0 : FrM V (upm V 369 0 0) := FrM.th 0
  have no : ¬ drC s m b w → ∃ z, some (vI (-1)) = some (vI z) ∧ FrM V (upm V 369 0 0) ∧ z = if drC s m b w then drR P n s m b w else -1 := fun c => ⟨_, rfl, f0, by rw [if_neg c]⟩
  have if1 : ∀ {p : Prop} [Decidable p], (if p then (1 : Int) else 0) = 0 → ¬ p := fun {p} _ h q => by rw [if_pos q] at h; cases h
  have if0 : ∀ {p : Prop} [Decidable p], ¬ (if p then (1 : Int) else 0) = 0 → p := fun {p} _ h => Decidable.byContradiction (fun q => h (if_neg q))
  refine sX12_drawn s m b w ((m_within (d := d + 4) _ _ _).use ⟨fun h => no (fun q => if1 h q.1), fun h1 => (m_within (d := d + 4) _ _ _).use ⟨fun h => no (fun q => if1 h q.2.1), fun h2 => (m_within (d := d + 4) _ _ _).use ⟨fun h => no (fun q => if1 h q.2.2.1), fun h3 => (m_within (d := d + 4) _ _ _).use ⟨fun h4 => ?_, fun h => no (fun q => if1 h q.2.2.2)⟩⟩⟩⟩)
  have h1 := if0 h1
  have h2 := if0 h2
  have h3 := if0 h3
  have h4 := if0 h4
  have hc : drC s m b w := ⟨h1, h2, h3, h4⟩
  rw [if_pos hc]
  obtain ⟨k, rfl⟩ : ∃ k : Nat, m = k := ⟨m.toNat, by omega⟩
  unfold drR
  rw [tn]
  generalize hW : wD P n s b k = W at *
  have hWe : ∀ p, wv (fct (drw s b p) p k 0) P n = W p := fun p => by rw [← hW]; rfl
  have eFD : FD P n s b k = fun p q => fol 0 (W p) (W q) := by funext p q; unfold FD; rw [hW]
  rw [eFD]
  obtain ⟨G, G0, Gs, Gr, Gd⟩ : ∃ G : Nat → Int, G 0 = s ∧ (∀ i, gnx (G i) = G (i + 1)) ∧ (∀ i, 0 ≤ G i ∧ G i < 2147483648) ∧ ∀ i, G (i + 1) / 65536 % b = drw s b i := ⟨gnk s, rfl, fun _ => rfl, gnk_r h1, fun _ => rfl⟩
  generalize drw s b = D at *
  have wqA : ∀ i, i ≤ k → ∀ V' : Mem, FrM V V' → V' 369 41 = G i → V' 369 22 = 0 → V' 369 23 = k → (∀ p, p < i → V' 383 p = W p) → Wf K (d + 5) mX12_drawn 67 [some (vR 369), none, some (vI (k : Int)), some (vI b), some (vI w), some (vI (i : Int)), none] [] V' (fun r V' => ∃ z, r = some (vI z) ∧ FrM V V' ∧ z = if w = 2 then und (lw (fun p q => fol 0 (W p) (W q))) k 0 k k else if w = 0 then lw (fun p q => fol 0 (W p) (W q)) 0 k else nw (fun p q => fol 0 (W p) (W q)) 0 k) := by
    refine up_ind ?_ ?_
    · intro V' g1 g2 g3 g4 g5
      refine sX12_drawn_67 _ _ _ _ ⟨fun _ => ?_, fun c => absurd (Int.le_refl _) c⟩
      have hF : ∀ p q, 0 ≤ q → q < p → p < k → (Fm V' p q ↔ fol 0 (W p) (W q)) := fun p q _ q2 q3 => by
        unfold Fm
        rw [g3, g5 p (by omega), g5 q (by omega)]
      refine (m_findsLongs (d := d + 2) (V := V') (n := k) (by rw [g3]; exact ⟨by omega, by omega⟩) g4 (by omega)).use (fun V2 ⟨j1, j2⟩ => ?_)
      have e369 : V2 369 = V' 369 := j1 369 (by omega) (by omega) (by omega)
      have fr : FrM V V2 := g1.tr ⟨fun c q1 q2 => j1 c (by omega) (by omega) (by omega), fun j _ _ _ _ => by rw [e369]⟩
      have hT : ∀ i j, i ≤ j → j ≤ k → V2 384 (21 * i + j) = lw (fun p q => fol 0 (W p) (W q)) i j := fun i j q1 q2 => by
        rw [j2 i j q1 q2]
        exact lw_congr (fun p q a1 a2 a3 => hF p q (Nat.zero_le _) a2 (by omega))
      have hF2 : ∀ p q, 0 ≤ q → q < p → p < k → (Fm V2 p q ↔ fol 0 (W p) (W q)) := fun p q a1 a2 a3 => by
        have := hF p q a1 a2 a3
        unfold Fm at this ⊢
        rw [e369, j1 383 (by omega) (by omega) (by omega)]
        exact this
      refine ⟨fun c => ?_, fun c => ⟨fun c2 => ?_, fun c2 => ?_⟩⟩
      · rw [if_pos (by omega)]
        have hb : ∀ i j, i ≤ j → j ≤ k → 0 ≤ V2 384 (21 * i + j) ∧ V2 384 (21 * i + j) ≤ 20 := fun i j q1 q2 => by
          rw [hT i j q1 q2]
          have := lw_r (F := fun p q => fol 0 (W p) (W q)) (lo := i) (hi := j) q1
          omega
        rw [und_congr (T2 := fun i j => V2 384 (21 * i + j)) (fun i j q1 q2 => (hT i j q1 q2).symm)]
        have wqB : ∀ p, p ≤ k → Wf K (d + 5) mX12_drawn 136 [some (vR 369), none, some (vI (k : Int)), none, none, some (vI (und (fun i j => V2 384 (21 * i + j)) k 0 k p)), some (vI (p : Int))] [] V2 (fun r V' => ∃ z, r = some (vI z) ∧ FrM V V' ∧ z = und (fun i j => V2 384 (21 * i + j)) k 0 k k) := by
          refine up_ind ?_ ?_
          · exact sX12_drawn_136 _ _ _ ⟨fun _ => ⟨_, rfl, fr, rfl⟩, fun c => absurd (Int.le_refl _) c⟩
          · intro p hp ih
            refine sX12_drawn_136 _ _ _ ⟨fun c => by omega, fun _ => ?_⟩
            refine (m_strandOf (d := d + 2) (V := V2) (m := k) (a := p) (by rw [e369]; exact g4) (by omega) (by omega) (by omega) hb).use ?_
            have r1 := sfn_r (T := fun i j => V2 384 (21 * i + j)) (m := k) (a := p) (by omega)
            have r2 := und_r (T := fun i j => V2 384 (21 * i + j)) (m := k) (lo := 0) (hi := k) p
            have s1 : (0 ≤ sfn (fun i j => V2 384 (21 * i + j)) k p ∧ sfn (fun i j => V2 384 (21 * i + j)) k p < k) → und (fun i j => V2 384 (21 * i + j)) k 0 k (p + 1) = und (fun i j => V2 384 (21 * i + j)) k 0 k p + 1 := fun c => by
              unfold und
              rw [sm_t (by rw [Nat.zero_add]; exact c)]
            have s0 : ¬ (0 ≤ sfn (fun i j => V2 384 (21 * i + j)) k p ∧ sfn (fun i j => V2 384 (21 * i + j)) k p < k) → und (fun i j => V2 384 (21 * i + j)) k 0 k (p + 1) = und (fun i j => V2 384 (21 * i + j)) k 0 k p := fun c => by
              unfold und
              rw [sm_f (by rw [Nat.zero_add]; exact c)]
            rw [w32_s (i := p) (by omega)]
            generalize und (fun i j => V2 384 (21 * i + j)) k 0 k p = U at *
            generalize sfn (fun i j => V2 384 (21 * i + j)) k p = z at *
            rw [w32_id (x := U + 1) (by omega) (by omega), w32_id (x := U + 0) (by omega) (by omega), Int.add_zero]
            refine ⟨fun c => ?_, fun c => ?_⟩
            · rw [s0 (fun q => by omega)] at ih; exact ih
            · rw [s1 ⟨by omega, by omega⟩] at ih; exact ih
        exact wqB 0 (Nat.zero_le _)
      · rw [if_neg (by omega), if_neg c2]
        refine (m_waysOf (d := d + 2) (V := V2) (lo := 0) (hi := k) (by rw [e369, g3]; exact ⟨by omega, by omega⟩) (Nat.zero_le _) (by omega) (by rw [hT 0 k (Nat.zero_le _) (Nat.le_refl _)]; exact (lw_congr hF2).symm)).use (fun z V5 ⟨k1, k2⟩ => ⟨_, rfl, fr.tr ⟨fun c q1 q2 => k1 c (by omega) (by omega), fun j _ _ _ _ => by rw [k1 369 (by omega) (by omega)]⟩, ?_⟩)
        rw [k2]
        exact nw_congr (Nat.zero_le _) hF2
      · rw [if_neg (by omega), if_pos c2]
        have h441 : (0 : Int) ≤ (k : Int) ∧ (k : Int) < (441 : Nat) := ⟨by omega, by omega⟩
        rw [ix210 (show k ≤ 20 by omega), tn]
        refine ⟨h441, _, rfl, fr, ?_⟩
        have := hT 0 k (Nat.zero_le _) (Nat.le_refl _)
        rw [Nat.mul_zero, Nat.zero_add] at this
        exact this
    · intro i hi ih V' g1 g2 g3 g4 g5
      refine sX12_drawn_67 _ _ _ _ ⟨fun c => by omega, fun _ => ⟨by omega, ?_⟩⟩
      rw [g2, gx_m (Gr i), Gs i, upm_s, dr_m (Gr (i + 1)) h3, Gd i]
      generalize hV1 : upm (upm (upm (upm (upm V' 369 41 (G (i + 1))) 379 0 (D i)) 379 1 (i : Int)) 379 2 (k : Int)) 379 3 0 = V1
      have k1 : ∀ c, c ≠ 379 → c ≠ 369 → V1 c = V' c := fun c q1 q2 => by rw [← hV1, upm_off c q1, upm_off c q1, upm_off c q1, upm_off c q1, upm_off c q2]
      have k2 : ∀ j, j ≠ 41 → V1 369 j = V' 369 j := fun j q => by rw [← hV1, upm_a (by omega), upm_a (by omega), upm_a (by omega), upm_a (by omega), upm_k q]
      have k3 : V1 369 41 = G (i + 1) := by rw [← hV1, upm_a (by omega), upm_a (by omega), upm_a (by omega), upm_a (by omega), upm_s]
      have a0 : V1 379 0 = D i := by rw [← hV1, upm_k (by omega), upm_k (by omega), upm_k (by omega), upm_s]
      have a1 : V1 379 1 = (i : Int) := by rw [← hV1, upm_k (by omega), upm_k (by omega), upm_s]
      have a2 : V1 379 2 = (k : Int) := by rw [← hV1, upm_k (by omega), upm_s]
      have a3 : V1 379 3 = 0 := by rw [← hV1, upm_s]
      have e5 : V1 375 2 = V 375 2 := by rw [k1 375 (by omega) (by omega), g1.c375]
      have fr1 : FrM V V1 := g1.tr ⟨fun c q1 q2 => k1 c (by omega) q2, fun j _ _ _ q => k2 j q⟩
      rw [e5, w32_s (i := i) (by omega), tn]
      have fin : ∀ (z : Int) (V3 : Mem), (∀ c, c ≠ 380 → V3 c = V1 c) → z = W i → Wf K (d + 5) mX12_drawn 67 [some (vR 369), none, some (vI (k : Int)), some (vI b), some (vI w), some (vI ((i + 1 : Nat) : Int)), none] [] (upm V3 383 i z) (fun r V' => ∃ z, r = some (vI z) ∧ FrM V V' ∧ z = if w = 2 then und (lw (fun p q => fol 0 (W p) (W q))) k 0 k k else if w = 0 then lw (fun p q => fol 0 (W p) (W q)) 0 k else nw (fun p q => fol 0 (W p) (W q)) 0 k) := by
        intro z V3 c1 hz
        have c369 : upm V3 383 i z 369 = V1 369 := by rw [upm_off 369 (by omega), c1 369 (by omega)]
        refine ih _ (fr1.tr ⟨fun c q1 q2 => by rw [upm_off c (by omega), c1 c (by omega)], fun j _ _ _ _ => by rw [c369]⟩) (by rw [c369]; exact k3) (by rw [c369, k2 22 (by omega)]; exact g3) (by rw [c369, k2 23 (by omega)]; exact g4) (fun p hp => ?_)
        by_cases q : p = i
        · rw [q, upm_s]; exact hz
        · rw [upm_k q, c1 383 (by omega), k1 383 (by omega) (by omega)]; exact g5 p (by omega)
      have hcg : wv (fun q => V1 379 q.toNat) P n = W i := by
        rw [← hWe i]
        unfold wv
        rw [vr_congr hw (fun q hq => fct_k (g := V1 379) a0 a1 a2 a3 hq) n (Nat.le_refl n)]
      rcases hlm with ⟨l1, l2, l3⟩ | ⟨o, l1, l2, l3, l4⟩
      · refine ⟨fun c => by omega, fun _ => ⟨⟨by omega, by omega⟩, fin _ V1 (fun _ _ => rfl) ?_⟩⟩
        rw [← hWe i, l2, wv_plain l3]
        rfl
      · rw [l1]
        refine ⟨fun _ => ?_, fun c => by omega⟩
        have h376 : V1 376 = V 376 := fr1.1 376 (by omega) (by omega)
        refine Mi.use (m_worthAt (d := d + 2) (V := V1) (P := P) l2 (fun j hj => by rw [h376]; exact l3 j hj) (by rw [h376]; exact l4) hw) (fun z V3 ⟨z1, z2⟩ => ⟨⟨by omega, by omega⟩, fin z V3 z2 (z1.trans hcg)⟩)
  refine wqA 0 (Nat.zero_le _) _ (f0.tr ⟨fun c q1 q2 => by rw [upm_off c q2, upm_off c q2, upm_off c q2], fun j q1 q2 q3 q4 => by rw [upm_k q3, upm_k q2, upm_k q4]⟩) (by rw [upm_k (by omega), upm_k (by omega), upm_s]; exact G0.symm) (by rw [upm_k (by omega), upm_s]) (upm_s _ _ _ _) (fun p hp => absurd hp (Nat.not_lt_zero p))
end CDS
