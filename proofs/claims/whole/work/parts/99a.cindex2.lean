/-! ===== the class reads an index: the loop ===== -/
theorem XFr.trans {V V' V'' : Mem} (h : XFr V V') (h2 : XFr V' V'') : XFr V V'' := fun c hc => by rw [h2 c hc]; exact h c hc
theorem ix99 {n : Nat} (h : n ≤ 10) : w32 ((n : Int) + 1) = ((n + 1 : Nat) : Int) := w32_s (by omega)
section CIY
variable {K : KK} {d : Nat} {V : Mem} {t : Nat → Int} {L : Nat}
/-- how many statements were read -/
def ixN (s : IS) : Nat := s.2.1 + s.2.2.1 + s.2.2.2.1
theorem ixS_n {s : IS} (h : (ixS t L s).1 = 0) : ixN (ixS t L s).2 = ixN s + 1 := by
  obtain ⟨i, R, B, w, C, rI, bI⟩ := s
  unfold ixS at h ⊢
  dsimp only at h ⊢
  by_cases c1 : cT t L i = 128
  · rw [if_pos c1]
    show R + 1 + B + w = R + B + w + 1
    omega
  rw [if_neg c1] at h ⊢
  by_cases c2 : cT t L i = 129
  · rw [if_pos c2]
    show R + (B + 1) + w = R + B + w + 1
    omega
  rw [if_neg c2] at h ⊢
  by_cases c3 : cT t L i = 130
  · rw [if_pos c3] at h ⊢
    by_cases w0 : w = 0
    · show R + B + 1 = R + B + w + 1
      omega
    · rw [if_neg w0] at h
      exact absurd h (ft_nz (by omega))
  · rw [if_neg c3] at h
    exact absurd h (ft_nz (by omega))
/-- the first state -/
def ix0 : IS := (0, 0, 0, 0, [(2, 0)], (fun _ => 0), (fun _ => 0))
theorem c_readIndex (hS : ∀ e, TSg K (d + 1 + e)) (hE : TE V t L) (h2 : V 1 2 = (L : Nat)) : Mi K (d + 6) mX5_readIndex [vR 4, vR 1] V (fun z V' => XFr V V' ∧ z = (ixF t L 10 ix0).1 ∧ (z = 0 → XDs V' t L (ixF t L 10 ix0).2 ∧ VDs t L (ixF t L 10 ix0).2)) := by
  obtain ⟨N, hN, hP⟩ := ex_N (t := t) (L := L)
  have hL := hE.1
  generalize hres : ixF t L 10 ix0 = res
  have loop : ∀ (f : Nat) (s : IS), f + ixN s = 10 → s.2.1 ≤ 4 → s.2.2.1 ≤ 4 → ixF t L f s = res → ∀ W : Mem, XFr V W → W 1 2 = (L : Nat) → W 1 3 = (bpT t L s.1 : Nat) → W 4 8 = 0 → XDs W t L s → VDs t L s → Wf K (d + 6) mX5_readIndex 31 [some (vR 4), some (vR 1), some (vI (ixN s : Int))] [] W (fun r V' => ∃ z, r = some (vI z) ∧ (XFr V V' ∧ z = res.1 ∧ (z = 0 → XDs V' t L res.2 ∧ VDs t L res.2))) := by
    intro f
    induction f with
    | zero =>
      intro s e h4 h5 hw W w1 w2 w3 w4 wD wV
      have hw7 := wV.2.2.2.2
      unfold ixN at e
      omega
    | succ f ih =>
      intro s e h4 h5 hw W w1 w2 w3 w4 wD wV
      have hEW : TE W t L := hE.congr (w1 2 (by omega)) (w1 3 (by omega))
      refine sX5_readIndex_31 _ ⟨fun q => by omega, fun _ => (c_adv (d := d + 3) (hS 3) hEW w2 w3).imp ?_⟩
      rintro r U ⟨u0, u1, u2⟩
      have hEU : TE U t L := hEW.congr (u1 2 (by decide)) (u1 3 (by decide))
      have uF : XFr V U := fun c hc => by rw [u1 c (by omega)]; exact w1 c hc
      have uD : XDs U t L s := by
        obtain ⟨d1, d2, d3, d4, d5, d6, d7⟩ := wD
        have nR := d1.2.2.1
        have nB := d1.2.2.2.1
        refine ⟨d1.congr (fun c q1 q2 => u1 c (by omega)), by rw [u1 5 (by decide)]; exact d2, fun r hr => ?_, fun b hb => ?_, by rw [u1 4 (by decide)]; exact d5, by rw [u1 35 (by decide)]; exact d6, ycod_congr _ (fun j _ => by rw [u1 36 (by decide)]) d7⟩
        · rw [u1 (11 + 2 * r) (by omega), u1 (12 + 2 * r) (by omega)]; exact d3 r hr
        · rw [u1 (19 + 2 * b) (by omega), u1 (20 + 2 * b) (by omega)]; exact d4 b hb
      have hw' : (if gT t L s.1 = 0 then ((0 : Int), s) else if (ixS t L s).1 = 0 then ixF t L f (ixS t L s).2 else ((ixS t L s).1, s)) = res := hw
      have g4 := u2.2.2.1
      refine ⟨u0, fun c => ?_, fun c => ?_⟩
      · have hg : gT t L s.1 ≠ 0 := by omega
        rw [if_neg hg] at hw'
        refine (c_readStatement (d := d) (i := s.1) (R := s.2.1) (B := s.2.2.1) (w := s.2.2.2.1) (C := s.2.2.2.2.1) (rI := s.2.2.2.2.2.1) (bI := s.2.2.2.2.2.2) hS hEU (show N ≤ 1000 by omega) hP u2 hg uD wV).use ?_
        rintro z X ⟨x1, x2, x3⟩
        rcases x3 with ⟨y1, y2, y3, y4, y5, y6⟩ | ⟨y1, y2, y3⟩
        · rw [if_pos y1] at hw'
          have hn : ixN (ixS t L s).2 = ixN s + 1 := ixS_n (s := s) y1
          rw [y2, ix99 (n := ixN s) (by omega), ← hn]
          refine ⟨fun _ => ih (ixS t L s).2 (by omega) y5.1.2.2.1 y5.1.2.2.2.1 hw' X (uF.trans x1) x2 y3 (by rw [y4, u1 4 (by decide)]; exact w4) y5 y6, fun q => absurd q (by decide)⟩
        · rw [if_neg y1] at hw'
          rw [y2]
          refine ⟨fun q => absurd rfl q, fun _ => ⟨_, rfl, uF.trans x1, ?_, fun q => absurd (by rw [← y3]; exact q) y1⟩⟩
          rw [y3, ← hw']
      · rw [if_pos (by omega)] at hw'
        refine ⟨0, rfl, uF, ?_, fun _ => ?_⟩
        · rw [← hw']
        · rw [← hw']; exact ⟨uD, wV⟩
  refine sX5_readIndex (sX4_bePlain 35 is35 (Mv.use (c_lawAdd (n := 0) (-143) (upm_s _ _ _ _) (by omega)) ?_))
  intro A eA
  have aC : ∀ c, c ≠ 5 → c ≠ 35 → c ≠ 36 → A c = V c := fun c p1 p2 p3 => by rw [eA, upm_off c p2, upm_off c p3, upm_off c p2, upm_off c p1, upm_off c p1, upm_off c p1]
  have a5 : A 5 = (upm (upm (upm V 5 5 0) 5 6 0) 5 7 0) 5 := by rw [eA, upm_off 5 (by decide), upm_off 5 (by decide), upm_off 5 (by decide)]
  have a35 : A 35 2 = 1 := by rw [eA, upm_s]; rfl
  have a36 : A 36 0 = -143 := by rw [eA, upm_off 36 (by decide), upm_s]
  refine ⟨rfl, ?_⟩
  refine loop 10 ix0 rfl (by decide) (by decide) hres _ (fun c hc => by rw [upm_off c (by omega), upm_off c (by omega), upm_off c (by omega)]; exact aC c (by omega) (by omega) (by omega)) (by rw [upm_k (by decide), upm_off 1 (by decide), upm_off 1 (by decide), aC 1 (by decide) (by decide) (by decide)]; exact h2) (upm_s _ _ _ _) (by rw [upm_off 4 (by decide), upm_s]) ⟨⟨?_, ?_, by decide, by decide, fun r hr => absurd hr (Nat.not_lt_zero r), fun r hr => absurd hr (Nat.not_lt_zero r)⟩, ?_, fun r hr => absurd hr (Nat.not_lt_zero r), fun r hr => absurd hr (Nat.not_lt_zero r), ?_, ?_, ⟨?_, trivial⟩⟩ ⟨⟨fun r hr => absurd hr (Nat.not_lt_zero r), fun r s hr => absurd hr (Nat.not_lt_zero r)⟩, ⟨fun r hr => absurd hr (Nat.not_lt_zero r), fun r s hr => absurd hr (Nat.not_lt_zero r)⟩, ⟨Or.inr (Or.inl ⟨rfl, by decide, by decide⟩), 0, rfl, Or.inl ⟨by decide, rfl, by decide⟩⟩, by decide, by decide⟩
  · rw [upm_off 5 (by decide), upm_off 5 (by decide), upm_off 5 (by decide), a5, upm_k (by decide), upm_k (by decide), upm_s]; rfl
  · rw [upm_off 5 (by decide), upm_off 5 (by decide), upm_off 5 (by decide), a5, upm_k (by decide), upm_s]; rfl
  · rw [upm_off 5 (by decide), upm_off 5 (by decide), upm_off 5 (by decide), a5, upm_s]
  · rw [upm_off 4 (by decide), upm_k (by decide), upm_s]; rfl
  · rw [upm_off 35 (by decide), upm_off 35 (by decide), upm_off 35 (by decide), a35]; rfl
  · rw [upm_off 36 (by decide), upm_off 36 (by decide), upm_off 36 (by decide)]
    exact a36
end CIY
