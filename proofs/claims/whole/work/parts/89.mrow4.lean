/-! ===== the reference reads a row ===== -/
section MRR
variable {K : KK} {d : Nat} {V : Mem} {t : Nat → Int} {L N i R B : Nat} {rI bI : Nat → Nat}
theorem m_readRow (hL : L ≤ 1000) (hP : psT t L N = L) (h : RS V t L N i) (h8 : V 369 8 = 0) (hg : gT t L i ≠ 0) (hN : MN V t L R B rI bI) : Mv K (d + 4) mX12_readRow [vR 369] V (fun V' => MRp R B rI bI t L i V V') := by
  have e140 : (w32 (140 + 0)).toNat = 140 := by decide
  have hR := hN.2.2.1
  have hi1 := tk_nx hP h.2.1 hg
  have hN1 := h.2.2.1
  refine sX12_readRow ?_
  rw [e140, hN.1, ix86c hR]
  refine ⟨by decide, Mv.use (m_readName (d := d) (a := 0) (m := R) h hL hP h8 hg hN (by omega) hR) ?_⟩
  rintro W (⟨m4, e⟩ | ⟨m4, nn, e⟩ | ⟨m4, nn, cn, e⟩)
  · have w8 : W 369 8 = ftT t L i 5 := by rw [e, upm_s]
    have w7 : W 369 7 = (i : Int) := by rw [e, upm_k (by decide)]; exact h.1
    have hp := ft_pos (t := t) (L := L) (i := i) (w := 5) (by omega)
    exact (m_takeOne0 (d := d + 2) (by rw [w8]; exact hp) w7 (by omega)).use (m_row_bad32 (j := i) (by rw [e]; exact MFr.at8) (by rw [w8]; exact hp) w7 (by omega) (by rw [w8]; exact if_pos m4) _ _ _)
  · have w8 : W 369 8 = nnF R B rI bI t L (i + 1) := by rw [e, upm_s]
    have w7 : W 369 7 = ((i + 1 : Nat) : Int) := by rw [e, upm_k (by decide), upm_s]
    have hp : 0 < nnF R B rI bI t L (i + 1) := by
      unfold nnF at nn ⊢
      by_cases c : nmT t L (i + 1) = true
      · rw [if_pos c] at nn ⊢
        by_cases c2 : dpT R B rI bI t L (i + 1) = true
        · rw [if_pos c2]; exact ft_pos (by omega)
        · rw [if_neg c2] at nn; exact absurd rfl nn
      · rw [if_neg c]; exact ft_pos (by omega)
    exact (m_takeOne0 (d := d + 2) (by rw [w8]; exact hp) w7 (by omega)).use (m_row_bad32 (j := i + 1) (by rw [e]; exact MFr.at7.trans MFr.at8) (by rw [w8]; exact hp) w7 (by omega) (by rw [w8]; unfold rwF; rw [if_neg m4, if_pos nn]) _ _ _)
  · rw [show 8 + 0 + R = 8 + R by omega] at e
    have w8 : W 369 8 = 0 := by rw [e, upm_k (by decide), upm_off 369 (by decide), upm_k (by decide)]; exact h8
    have w7 : W 369 7 = ((i + 2 : Nat) : Int) := by rw [e, upm_s]
    have hi2 := tk_nx hP hi1 (nm_g cn)
    have wF : MFr V W := by rw [e]; exact MFr.at7.trans ((MFr.at377 (by omega)).trans MFr.at7)
    have ws : RS W t L N (i + 2) := wF.rs h w7 hi2
    have f2 : rwF R B rI bI t L i = if cT t L (i + 2) < 136 ∨ 139 < cT t L (i + 2) then ftT t L (i + 2) 1 else rwZ t L (rwE t L i) (rwQ t L i) := by unfold rwF; rw [if_neg m4, if_neg (fun x => x nn)]
    refine (m_takeOne (d := d + 1) (a := 8) (m := 4) ws hL w8 (by omega)).use ?_
    rintro z T (⟨p1, p2, p3⟩ | ⟨p1, p2, p3⟩)
    · have t8 : T 369 8 = ftT t L (i + 2) 1 := by rw [p3, upm_s]
      have hp := ft_pos (t := t) (L := L) (i := i + 2) (w := 1) (by omega)
      have cc : cT t L (i + 2) < 136 ∨ 139 < cT t L (i + 2) := by
        unfold whT at p1
        by_cases c : 128 + ((8 : Nat) : Int) ≤ cT t L (i + 2) ∧ cT t L (i + 2) < 128 + ((8 : Nat) : Int) + ((4 : Nat) : Int)
        · rw [if_pos c] at p1; omega
        · omega
      exact m_row_bad32 (j := i + 2) (wF.trans (by rw [p3]; exact MFr.at8)) (by rw [t8]; exact hp) (by rw [p3, upm_k (by decide)]; exact w7) (by omega) (by rw [t8, f2, if_pos cc]) _ _ _
    · have cc : 136 ≤ cT t L (i + 2) ∧ cT t L (i + 2) ≤ 139 ∧ z = cT t L (i + 2) - 136 := by
        rw [p2]
        unfold whT at p1 ⊢
        by_cases c : 128 + ((8 : Nat) : Int) ≤ cT t L (i + 2) ∧ cT t L (i + 2) < 128 + ((8 : Nat) : Int) + ((4 : Nat) : Int)
        · rw [if_pos c]; omega
        · rw [if_neg c] at p1; exact absurd p1 (by decide)
      have hi3 : i + 2 + 1 ≤ N := tk_nx (i := i + 2) hP hi2 (c_g (i := i + 2) (by omega))
      rw [if_neg (by omega)] at f2
      rw [cc.2.2]
      have tF : MFr W T := by rw [p3]; exact MFr.at7
      exact m_row_loop (d := d) hL hP (by omega) hN.1 f2 0 (by omega) (fun k hk => by omega) (Or.inl rfl) T (wF.trans tF) (tF.rs ws (by rw [p3, upm_s]) hi3) (by rw [p3, upm_k (by decide)]; exact w8) (fun p hp => by omega) (fun k q1 q2 => by rw [p3, upm_off 375 (by decide), e, upm_off 375 (by decide), upm_off 375 (by decide), upm_off 375 (by decide)]) (by rw [p3, upm_off 377 (by decide), e, upm_off 377 (by decide), upm_s]) (fun k q => by rw [p3, upm_off 377 (by decide), e, upm_off 377 (by decide), upm_k q, upm_off 377 (by decide)])
end MRR
