/-! ===== the reference's rows: the loop ===== -/
theorem ix88 {e : Nat} (h : e ≤ 1000) : w32 (((e + 1 : Nat) : Int) - 1) = (e : Int) := by rw [w32_id (by omega) (by omega)]; omega
section MRL
variable {K : KK} {d : Nat} {V : Mem} {t : Nat → Int} {L N i R B : Nat} {rI bI : Nat → Nat}
theorem m_row_loop (hL : L ≤ 1000) (hP : psT t L N = L) (hR : R < 4) (hV : V 375 140 = (R : Nat)) (f2 : rwF R B rI bI t L i = rwZ t L (rwE t L i) (rwQ t L i)) : ∀ j, j ≤ 20 → (∀ k, k < j → gT t L (i + 3 + k) = 3 ∧ nT t L (i + 3 + k) ≤ 99) → (j = 0 ∨ gT t L (i + 3 + j) = 3) → ∀ W : Mem, MFr V W → RS W t L N (i + 3 + j) → W 369 8 = 0 → (∀ p, p < j → W 375 (145 + 22 * R + p) = nT t L (i + 3 + p)) → (∀ k, 140 ≤ k → (k < 143 + 22 * R ∨ 165 + 22 * R ≤ k) → W 375 k = V 375 k) → W 377 (8 + R) = wT 37 t L (i + 1) → (∀ j, j ≠ 8 + R → W 377 j = V 377 j) → Wf K (d + 4) mX12_readRow 32 [some (vR 369), none, some (vI (cT t L (i + 2) - 136)), some (vI ((143 + 22 * R : Nat) : Int)), some (vI (j : Int)), none] [] W (fun r V' => r = none ∧ MRp R B rI bI t L i V V') := by
  have key : ∀ j, j ≤ 20 → ((j < 20) → (∀ k, k < j + 1 → gT t L (i + 3 + k) = 3 ∧ nT t L (i + 3 + k) ≤ 99) → (j + 1 = 0 ∨ gT t L (i + 3 + (j + 1)) = 3) → ∀ W : Mem, MFr V W → RS W t L N (i + 3 + (j + 1)) → W 369 8 = 0 → (∀ p, p < j + 1 → W 375 (145 + 22 * R + p) = nT t L (i + 3 + p)) → (∀ k, 140 ≤ k → (k < 143 + 22 * R ∨ 165 + 22 * R ≤ k) → W 375 k = V 375 k) → W 377 (8 + R) = wT 37 t L (i + 1) → (∀ j, j ≠ 8 + R → W 377 j = V 377 j) → Wf K (d + 4) mX12_readRow 32 [some (vR 369), none, some (vI (cT t L (i + 2) - 136)), some (vI ((143 + 22 * R : Nat) : Int)), some (vI ((j + 1 : Nat) : Int)), none] [] W (fun r V' => r = none ∧ MRp R B rI bI t L i V V')) → (∀ k, k < j → gT t L (i + 3 + k) = 3 ∧ nT t L (i + 3 + k) ≤ 99) → (j = 0 ∨ gT t L (i + 3 + j) = 3) → ∀ W : Mem, MFr V W → RS W t L N (i + 3 + j) → W 369 8 = 0 → (∀ p, p < j → W 375 (145 + 22 * R + p) = nT t L (i + 3 + p)) → (∀ k, 140 ≤ k → (k < 143 + 22 * R ∨ 165 + 22 * R ≤ k) → W 375 k = V 375 k) → W 377 (8 + R) = wT 37 t L (i + 1) → (∀ j, j ≠ 8 + R → W 377 j = V 377 j) → Wf K (d + 4) mX12_readRow 32 [some (vR 369), none, some (vI (cT t L (i + 2) - 136)), some (vI ((143 + 22 * R : Nat) : Int)), some (vI (j : Int)), none] [] W (fun r V' => r = none ∧ MRp R B rI bI t L i V V') := by
    intro j hj nxt hg h0 W w1 ws w8 w5 w6 w7 w9
    have stop : ∀ q, q ≤ 20 → (∀ k, k < q → gT t L (i + 3 + k) = 3 ∧ nT t L (i + 3 + k) ≤ 99) → (q = 20 ∨ ¬ (gT t L (i + 3 + q) = 3 ∧ nT t L (i + 3 + q) ≤ 99)) → rwQ t L i = q ∧ rwE t L i = i + 3 + q := fun q p1 p2 p3 => by
      have e : rwQ t L i = q := nr_un 20 (i + 3) q p1 p2 p3
      exact ⟨e, by unfold rwE; rw [e]⟩
    have n59 : ∀ e, gT t L e = 3 → ¬ cT t L e = 59 := fun e x c => by
      have := (tk_sign (t := t) (L := L) (p := psT t L e) (s := 59) (by decide)).1 c
      have x' : tkG t L (psT t L e) = 3 := x
      omega
    have wle := ws.2.1
    have wN := ws.2.2.1
    refine sX12_readRow_32 _ _ _ ((m_takeNumber (d := d + 2) ws hL w8).use ?_)
    rintro z T (⟨p1, p2, p3⟩ | ⟨p1, p2, p3, p4⟩ | ⟨p1, p2, p3, p4⟩)
    · have j0 : j = 0 := h0.elim id (fun x => absurd x p1)
      obtain ⟨s1, s2⟩ := stop j hj hg (Or.inr (fun x => p1 x.1))
      have hp := ft_pos (t := t) (L := L) (i := i + 3 + j) (w := 1) (by omega)
      have t8 : T 369 8 = ftT t L (i + 3 + j) 1 := by rw [p3, upm_s]
      refine ⟨fun _ => sX12_readRow_70 _ _ _ _ ⟨fun _ => m_row_bad (j := i + 3 + j) (w1.trans (by rw [p3]; exact MFr.at8)) (by rw [t8]; exact hp) (by rw [p3, upm_k (by decide)]; exact ws.1) (by omega) (by rw [f2, s1, s2, t8]; unfold rwZ; rw [if_neg (by omega), if_neg p1]) _ _ _, fun q => by omega⟩, fun q => by omega⟩
    · obtain ⟨s1, s2⟩ := stop j hj hg (Or.inr (fun x => by have := x.2; omega))
      have hp := ft_pos (t := t) (L := L) (i := i + 3 + j) (w := 4) (by omega)
      have t8 : T 369 8 = ftT t L (i + 3 + j) 4 := by rw [p4, upm_s]
      refine ⟨fun _ => sX12_readRow_70 _ _ _ _ ⟨fun _ => m_row_bad (j := i + 3 + j) (w1.trans (by rw [p4]; exact MFr.at8)) (by rw [t8]; exact hp) (by rw [p4, upm_k (by decide)]; exact ws.1) (by omega) (by rw [f2, s1, s2, t8]; unfold rwZ; rw [if_neg (fun x => n59 _ p1 x.2), if_pos p1, if_neg (by omega)]) _ _ _, fun q => by omega⟩, fun q => by omega⟩
    · have t8 : T 369 8 = 0 := by rw [p4, upm_k (by decide)]; exact w8
      have t7 : T 369 7 = ((i + 3 + j + 1 : Nat) : Int) := by rw [p4, upm_s]
      have hi1 := tk_nx hP wle (by omega : gT t L (i + 3 + j) ≠ 0)
      have tF : MFr V T := w1.trans (by rw [p4]; exact MFr.at7)
      have b1 : W 372 (i + 3 + j) = (psT t L (i + 3 + j) : Nat) := (ws.2.2.2.1 _ wle).1
      refine ⟨fun q => absurd t8 q, fun _ => ⟨fun c20 => ?_, fun c20 => ?_⟩⟩
      · have j20 : j < 20 := by omega
        refine sX12_readRow_70 _ _ _ _ ⟨fun q => absurd t8 q, fun _ => ?_⟩
        rw [ix86a (R := R) (j := j) (by omega) hj, tn, w32_s (i := j) (by omega), p3]
        have yF : MFr V (upm T 375 (145 + 22 * R + j) (nT t L (i + 3 + j))) := tF.trans (MFr.at375 (by omega))
        have y7 : (upm T 375 (145 + 22 * R + j) (nT t L (i + 3 + j))) 369 7 = ((i + 3 + (j + 1) : Nat) : Int) := by rw [upm_off 369 (by decide)]; exact t7
        have y8 : (upm T 375 (145 + 22 * R + j) (nT t L (i + 3 + j))) 369 8 = 0 := by rw [upm_off 369 (by decide)]; exact t8
        have y5 : ∀ p, p < j + 1 → (upm T 375 (145 + 22 * R + j) (nT t L (i + 3 + j))) 375 (145 + 22 * R + p) = nT t L (i + 3 + p) := fun p hp => by
          by_cases e : p = j
          · rw [e, upm_s]
          · rw [upm_k (by omega), p4, upm_off 375 (by decide)]; exact w5 p (by omega)
        have y6 : ∀ k, 140 ≤ k → (k < 143 + 22 * R ∨ 165 + 22 * R ≤ k) → (upm T 375 (145 + 22 * R + j) (nT t L (i + 3 + j))) 375 k = V 375 k := fun k q1 q2 => by rw [upm_k (by omega), p4, upm_off 375 (by decide)]; exact w6 k q1 q2
        have y77 : (upm T 375 (145 + 22 * R + j) (nT t L (i + 3 + j))) 377 = W 377 := by rw [upm_off 377 (by decide), p4, upm_off 377 (by decide)]
        have ys : RS (upm T 375 (145 + 22 * R + j) (nT t L (i + 3 + j))) t L N (i + 3 + (j + 1)) := by
          have m : MFr W (upm T 375 (145 + 22 * R + j) (nT t L (i + 3 + j))) := by rw [p4]; exact MFr.at7.trans (MFr.at375 (by omega))
          exact m.rs ws y7 hi1
        have hg' : ∀ k, k < j + 1 → gT t L (i + 3 + k) = 3 ∧ nT t L (i + 3 + k) ≤ 99 := fun k hk => by
          by_cases e : k = j
          · rw [e]; exact ⟨p1, p2⟩
          · exact hg k (by omega)
        generalize upm T 375 (145 + 22 * R + j) (nT t L (i + 3 + j)) = Y at *
        have b2 : Y 371 (i + 3 + (j + 1)) = 2 ↔ gT t L (i + 3 + (j + 1)) = 3 := by rw [(ys.2.2.2.1 (i + 3 + (j + 1)) hi1).2.1]; exact rso_n
        refine ⟨⟨by omega, by omega⟩, sX12_readRow_93 _ _ _ ⟨fun q => absurd y8 q, fun _ => ?_⟩⟩
        rw [y7, tn, b2]
        refine ⟨⟨by omega, by omega⟩, fun c => nxt j20 hg' (Or.inr c) Y yF ys y8 y5 y6 (by rw [y77]; exact w7) (fun k q => by rw [y77]; exact w9 k q), fun c => sX12_readRow_113 _ _ _ ⟨fun q => absurd y8 q, fun _ => ?_⟩⟩
        obtain ⟨s1, s2⟩ := stop (j + 1) (by omega) hg' (Or.inr (fun x => c x.1))
        have yR : Y 375 140 = (R : Nat) := by rw [y6 140 (by omega) (by omega)]; exact hV
        rw [ix86b (R := R) (by omega), tn, tn, upm_k (show (140 : Nat) ≠ 144 + 22 * R by omega), upm_k (show (140 : Nat) ≠ 143 + 22 * R by omega), yR, w32_s (i := R) (by omega)]
        refine ⟨⟨by omega, by omega⟩, ⟨by omega, by omega⟩, rfl, yF.trans ((MFr.at375 (by omega)).trans ((MFr.at375 (by omega)).trans (MFr.at375 (by omega)))), Or.inr ⟨by rw [upm_off 369 (by decide), upm_off 369 (by decide), upm_off 369 (by decide)]; exact y8, by rw [upm_off 369 (by decide), upm_off 369 (by decide), upm_off 369 (by decide), s2]; exact y7, by omega, ?_, upm_s _ _ _ _, by rw [upm_k (by omega), upm_k (by omega), upm_s], by rw [upm_k (by omega), upm_s, s1], fun p hp => ?_, fun k q1 q2 => by rw [upm_k (by omega), upm_k (by omega), upm_k (by omega)]; exact y6 k (by omega) q2, by rw [upm_off 377 (by decide), upm_off 377 (by decide), upm_off 377 (by decide), y77]; exact w7, fun k q => by rw [upm_off 377 (by decide), upm_off 377 (by decide), upm_off 377 (by decide), y77]; exact w9 k q⟩⟩
        · rw [f2, s1, s2]
          unfold rwZ
          by_cases c9 : cT t L (i + 3 + (j + 1)) = 59
          · rw [if_pos ⟨by omega, c9⟩, if_pos c9]
          · rw [if_neg (fun x => c9 x.2), if_neg c, if_neg c9]
        · rw [s1] at hp
          rw [upm_k (by omega), upm_k (by omega), upm_k (by omega)]
          exact y5 p hp
      · have j20 : j = 20 := by omega
        rw [upm_k (show (8 : Nat) ≠ 7 by decide), upm_s, t7, ix88 (e := i + 3 + j) (by omega), upm_off 372 (by decide), tn, p4, upm_off 372 (by decide), b1, ftT_w hL (by omega), ← p4]
        obtain ⟨s1, s2⟩ := stop j hj hg (Or.inl j20)
        have hp := ft_pos (t := t) (L := L) (i := i + 3 + j) (w := 5) (by omega)
        have u8 : (upm (upm T 369 7 ((i + 3 + j : Nat) : Int)) 369 8 (ftT t L (i + 3 + j) 5)) 369 8 = ftT t L (i + 3 + j) 5 := upm_s _ _ _ _
        refine ⟨fun q => absurd t8 q, fun _ => ⟨⟨by omega, by omega⟩, sX12_readRow_70 _ _ _ _ ⟨fun _ => m_row_bad (j := i + 3 + j) (tF.trans (MFr.at7.trans MFr.at8)) (by rw [u8]; exact hp) (by rw [upm_k (by decide), upm_s]) (by omega) (by rw [f2, s1, s2, u8]; unfold rwZ; rw [if_neg (fun x => n59 _ p1 x.2), if_pos p1, if_pos p2]) _ _ _, fun q => by omega⟩⟩⟩
  exact up_ind (key 20 (Nat.le_refl _) (fun x => by omega)) (fun j hj ih => key j (by omega) (fun _ => ih))
end MRL
