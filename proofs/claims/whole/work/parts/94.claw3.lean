/-! ===== the class reads a law: the loop ===== -/
/-- what reading a law leaves alone -/
def LFw (V V' : Mem) : Prop := (∀ c, c ≠ 1 → c ≠ 4 → c ≠ 35 → c ≠ 36 → c ≠ 42 → V' c = V c) ∧ ∀ j, j ≠ 4 → j ≠ 5 → j ≠ 6 → j ≠ 8 → V' 4 j = V 4 j
/-- the class behind a law whose yard ended with res -/
def RLw (t : Nat → Int) (L : Nat) (res : Int × Nat × List (Int × Int)) (V : Mem) (z : Int) (V' : Mem) : Prop := LFw V V' ∧ V' 1 2 = (L : Nat) ∧ ((res.1 = -1 ∧ z = 1 ∧ V' 1 3 = (bpT t L (res.2.1 + 1) : Nat) ∧ V' 4 8 = V 4 8 ∧ V' 35 2 = (res.2.2.length : Nat) ∧ ycod V' res.2.2 ∧ PW res.2.2 1 ∧ res.2.2.length ≤ 999 ∧ cT t L res.2.1 = 59) ∨ (0 < res.1 ∧ z = 0 ∧ V' 4 8 = res.1))
section CLL
variable {K : KK} {d : Nat} {V : Mem} {t : Nat → Int} {L N i0 : Nat} {res : Int × Nat × List (Int × Int)}
theorem ix94 {i i0 : Nat} (h : i0 ≤ i) (h2 : i ≤ 1000) : w32 (((i - i0 : Nat) : Int) + 1) = ((i + 1 - i0 : Nat) : Int) := by rw [w32_id (by omega) (by omega)]; omega
theorem c_law_loop (hS : ∀ e, TSg K (d + 1 + e)) (hE : TE V t L) (hN : N ≤ 1000) (hP : psT t L N = L) (h0 : 1 ≤ i0) : ∀ i, i ≤ N → i0 ≤ i → ∀ (due : Bool) (C : List (Int × Int)) (S : List Int) (W : Mem), LFw V W → W 1 2 = (L : Nat) → W 1 3 = (bpT t L i : Nat) → W 4 6 = (if due = true then 1 else 0) → W 4 8 = V 4 8 → LA W C S → YI i0 i due C S → YR t L i due C S = res → Wf K (d + 4) mX5_readLaw 44 [some (vR 4), some (vR 1), some (vI ((i - i0 : Nat) : Int))] [] W (fun r V' => ∃ z, r = some (vI z) ∧ RLw t L res V z V') := by
  have key : ∀ i, i ≤ N → (i < N → i0 ≤ i + 1 → ∀ (due : Bool) (C : List (Int × Int)) (S : List Int) (W : Mem), LFw V W → W 1 2 = (L : Nat) → W 1 3 = (bpT t L (i + 1) : Nat) → W 4 6 = (if due = true then 1 else 0) → W 4 8 = V 4 8 → LA W C S → YI i0 (i + 1) due C S → YR t L (i + 1) due C S = res → Wf K (d + 4) mX5_readLaw 44 [some (vR 4), some (vR 1), some (vI ((i + 1 - i0 : Nat) : Int))] [] W (fun r V' => ∃ z, r = some (vI z) ∧ RLw t L res V z V')) → i0 ≤ i → ∀ (due : Bool) (C : List (Int × Int)) (S : List Int) (W : Mem), LFw V W → W 1 2 = (L : Nat) → W 1 3 = (bpT t L i : Nat) → W 4 6 = (if due = true then 1 else 0) → W 4 8 = V 4 8 → LA W C S → YI i0 i due C S → YR t L i due C S = res → Wf K (d + 4) mX5_readLaw 44 [some (vR 4), some (vR 1), some (vI ((i - i0 : Nat) : Int))] [] W (fun r V' => ∃ z, r = some (vI z) ∧ RLw t L res V z V') := by
    intro i hi nxt hi0 due C S W w0 w2 w3 w6 w8 wA wI wR
    have hEW : TE W t L := hE.congr (w0.1 2 (by decide) (by decide) (by decide) (by decide) (by decide)) (w0.1 3 (by decide) (by decide) (by decide) (by decide) (by decide))
    have hln := wI.len
    have hcl := wI.1
    refine sX5_readLaw_44 _ ⟨fun q => by omega, fun _ => (c_adv (d := d + 1) (hS 1) hEW w2 w3).imp ?_⟩
    rintro r U ⟨u0, u1, u2⟩
    have hEU : TE U t L := hEW.congr (u1 2 (by decide)) (u1 3 (by decide))
    have uA : LA U C S := ⟨wA.1.congr (by rw [u1 4 (by decide)]) (u1 35 (by decide)) (u1 36 (by decide)) (u1 42 (by decide)), by rw [u1 4 (by decide)]; exact wA.2⟩
    have u6 : U 4 6 = (if due = true then 1 else 0) := by rw [u1 4 (by decide)]; exact w6
    have u8 : U 4 8 = V 4 8 := by rw [u1 4 (by decide)]; exact w8
    have u7 : U 1 7 = cT t L i := u2.2.2.2.2.1
    have uF : LFw V U := ⟨fun c p1 p2 p3 p4 p5 => by rw [u1 c p1]; exact w0.1 c p1 p2 p3 p4 p5, fun j p1 p2 p3 p4 => by rw [u1 4 (by decide)]; exact w0.2 j p1 p2 p3 p4⟩
    have hng := yd_neg (t := t) (L := L) (i := i) (due := due) (C := C) (S := S)
    have hstep := fun e => YI.step (t := t) (L := L) (due' := (yd t L i due C S).2.1) (C' := (yd t L i due C S).2.2.1) (S' := (yd t L i due C S).2.2.2) wI e
    have hfin := fun e => YI.fin (t := t) (L := L) (due' := (yd t L i due C S).2.1) (C' := (yd t L i due C S).2.2.1) (S' := (yd t L i due C S).2.2.2) wI e
    have hgo := fun e => YR_go (t := t) (L := L) (i := i) (due := due) (C := C) (S := S) (due' := (yd t L i due C S).2.1) (C' := (yd t L i due C S).2.2.1) (S' := (yd t L i due C S).2.2.2) (by omega) e
    have hstop := fun e n => YR_stop (t := t) (L := L) (i := i) (due := due) (C := C) (S := S) (f := (yd t L i due C S).1) (due' := (yd t L i due C S).2.1) (C' := (yd t L i due C S).2.2.1) (S' := (yd t L i due C S).2.2.2) (by omega) e n
    have hgg := yd_g (t := t) (L := L) (i := i) (due := due) (C := C) (S := S)
    -- behind a step of the class's helpers
    have stp : (due = true ∨ cT t L i ≠ 59) → ∀ (z : Int) (X : Mem), LSt U (yd t L i due C S) z X → (¬ z = 0 → Wf K (d + 4) mX5_readLaw 44 [some (vR 4), some (vR 1), some (vI (w32 (((i - i0 : Nat) : Int) + 1)))] [] X (fun r V' => ∃ z, r = some (vI z) ∧ RLw t L res V z V')) ∧ (z = 0 → ∃ z, some (vI 0) = some (vI z) ∧ RLw t L res V z X) := by
      rintro hd z X ⟨x1, x2, x3⟩
      have xF : LFw V X := ⟨fun c p1 p2 p3 p4 p5 => by rw [x1 c p2 p3 p4 p5]; exact uF.1 c p1 p2 p3 p4 p5, fun j p1 p2 p3 p4 => by rw [x2 j p1 p2 p3 p4]; exact uF.2 j p1 p2 p3 p4⟩
      have x12 : X 1 = U 1 := x1 1 (by decide) (by decide) (by decide) (by decide)
      rcases x3 with ⟨y1, y2, y3, y4, y5⟩ | ⟨y1, y2, y3⟩
      · refine ⟨fun _ => ?_, fun q => by omega⟩
        have hn1 := tk_nx hP hi (hgg y1)
        rw [ix94 hi0 (by omega)]
        have er : yd t L i due C S = (0, (yd t L i due C S).2.1, (yd t L i due C S).2.2.1, (yd t L i due C S).2.2.2) := by rw [← y1]
        exact nxt (by omega) (by omega) _ _ _ X xF (by rw [x12]; exact u2.1) (by rw [x12]; exact u2.2.1) y4 (by rw [y3]; exact u8) y5 (hstep er) (by rw [← hgo er]; exact wR)
      · refine ⟨fun q => absurd y2 q, fun _ => ⟨0, rfl, xF, by rw [x12]; exact u2.1, Or.inr ?_⟩⟩
        have e : res = _ := wR.symm.trans (hstop rfl y1)
        have e1 : res.1 = (yd t L i due C S).1 := by rw [e]
        refine ⟨?_, rfl, by rw [y3, e1]⟩
        rw [e1]
        rcases hng with h | ⟨h, h2, h3⟩ | h
        · exact absurd h y1
        · rcases hd with q | q
          · rw [h2] at q; exact absurd q (by decide)
          · exact absurd h3 q
        · exact h
    refine ⟨u0, fun q6 => ?_, fun q6 => ?_⟩
    · have cd : due = false := by
        cases due with
        | false => rfl
        | true => rw [u6] at q6; exact absurd q6 (by decide)
      subst cd
      rw [u7]
      refine ⟨fun n59 => ⟨fun n41 => ?_, fun c41 => ?_⟩, fun c59 => ?_⟩
      · exact (c_lawOp (d := d) hEU u2 uA u6 (by omega) hln n59 n41).use (stp (Or.inr n59))
      · refine Mv.use (c_release (d := d + 1) (r := 1) (by omega) S C U uA.1 (by omega) (by omega)).1 ?_
        rintro X ⟨x1, x2, x3⟩
        have iv := yrl_inv (r := 1) (by omega) S C wI.2.1 (by omega) wI.2.2.2
        have ey : yd t L i false C S = if (yrl 1 S C).2.length = 0 then (ftT t L i 1, false, C, S) else (0, false, yrn (yrl 1 S C).2.tail (yrl 1 S C).1) := by
          unfold yd
          rw [if_neg (by decide), if_neg n59, if_pos c41]
        have ytop := yrl_top (r := 1) (by omega) S C
        have hXX : XA X t L i := u2.congr (x1.1 1 (by decide) (by decide) (by decide) (by decide))
        have hEX : TE X t L := hEU.congr (x1.1 2 (by decide) (by decide) (by decide) (by decide)) (x1.1 3 (by decide) (by decide) (by decide) (by decide))
        have xF : LFw V X := ⟨fun c p1 p2 p3 p4 p5 => by rw [x1.1 c p2 p3 p4 p5]; exact uF.1 c p1 p2 p3 p4 p5, fun j p1 p2 p3 p4 => by rw [x1.2 j p1 p2]; exact uF.2 j p1 p2 p3 p4⟩
        rw [upm_k (show (5 : Nat) ≠ 4 by decide), x2, uA.2]
        generalize hY : yrl 1 S C = Y at *
        obtain ⟨C1, S1⟩ := Y
        rw [x3.1]
        dsimp only at iv x3 ytop ey ⊢
        cases S1 with
        | nil =>
          refine ⟨fun q => absurd rfl q, fun _ => ?_⟩
          have ey : yd t L i false C S = (ftT t L i 1, false, C, S) := ey.trans (if_pos rfl)
          rw [ftX hEX hXX (by omega)]
          refine ⟨0, rfl, ⟨fun c p1 p2 p3 p4 p5 => by rw [upm_off c p2]; exact xF.1 c p1 p2 p3 p4 p5, fun j p1 p2 p3 p4 => by rw [upm_k p4]; exact xF.2 j p1 p2 p3 p4⟩, by rw [upm_off 1 (by decide)]; exact hXX.1, Or.inr ?_⟩
          have e : res = (ftT t L i 1, i, C) := wR.symm.trans (YR_stop (by omega) ey (ft_nz (by omega)))
          rw [e]
          exact ⟨ft_pos (by omega), rfl, upm_s _ _ _ _⟩
        | cons b S1 =>
          have el : (b :: S1).length = S1.length + 1 := rfl
          have z0 : yrk b = 0 := by have w : yrk b < 1 := ytop; omega
          have eo : yopn (b :: S1) = 1 + yopn S1 := by
            show (if yrk b = 0 then 1 else 0) + yopn S1 = _
            rw [if_pos z0]
          have ho := wI.2.2.1
          rw [el] at iv ey
          refine ⟨fun _ => ?_, fun q => by rw [el] at q; omega⟩
          rw [if_neg (by omega)] at ey
          rw [el, ix88 (e := S1.length) (by omega), show yopn S = yopn S1 + 1 by omega, ix88 (e := yopn S1) (by omega)]
          have b1 : LA (upm (upm X 4 4 ((S1.length : Nat) : Int)) 4 5 ((yopn S1 : Nat) : Int)) C1 S1 := ⟨(LB.pop x3).congr (upm_k (by decide)) (upm_off 35 (by decide)) (upm_off 36 (by decide)) (upm_off 42 (by decide)), upm_s _ _ _ _⟩
          refine Mv.use (c_releaseNots (d := d + 1) S1 C1 _ b1 (by omega) (by omega)).1 ?_
          rintro Y ⟨y1, y2⟩
          have ey' : yd t L i false C S = (0, false, (yrn S1 C1).1, (yrn S1 C1).2) := ey
          have hg0 : gT t L i ≠ 0 := c_g (by omega)
          have hn1 := tk_nx hP hi hg0
          rw [ix94 hi0 (by omega)]
          have yx : ∀ c, c ≠ 4 → c ≠ 35 → c ≠ 36 → c ≠ 42 → Y c = X c := fun c p1 p2 p3 p4 => by rw [y1.1 c p1 p2 p3 p4, upm_off c p1, upm_off c p1]
          have y4 : ∀ j, j ≠ 4 → j ≠ 5 → Y 4 j = X 4 j := fun j p1 p2 => by rw [y1.2 j p1 p2, upm_k p2, upm_k p1]
          have y11 : Y 1 = X 1 := yx 1 (by decide) (by decide) (by decide) (by decide)
          refine nxt (by omega) (by omega) false _ _ Y ⟨fun c p1 p2 p3 p4 p5 => by rw [yx c p2 p3 p4 p5]; exact xF.1 c p1 p2 p3 p4 p5, fun j p1 p2 p3 p4 => by rw [y4 j p1 p2]; exact xF.2 j p1 p2 p3 p4⟩ (by rw [y11]; exact hXX.1) (by rw [y11]; exact hXX.2.1) ?_ ?_ y2 (YI.step wI ey') ?_
          · rw [y4 6 (by decide) (by decide), x1.2 6 (by decide) (by decide)]; exact u6
          · rw [y4 8 (by decide) (by decide), x1.2 8 (by decide) (by decide)]; exact u8
          · rw [← YR_go (by omega) ey']; exact wR
      · refine Mv.use (c_release (d := d + 2) (r := 1) (by omega) S C U uA.1 (by omega) (by omega)).1 ?_
        rintro X ⟨x1, x2, x3⟩
        have ey : yd t L i false C S = if (yrl 1 S C).2.length = 0 then (-1, false, yrl 1 S C) else (ftT t L i 1, false, C, S) := by
          unfold yd
          rw [if_neg (by decide), if_pos c59]
        have hXX : XA X t L i := u2.congr (x1.1 1 (by decide) (by decide) (by decide) (by decide))
        have hEX : TE X t L := hEU.congr (x1.1 2 (by decide) (by decide) (by decide) (by decide)) (x1.1 3 (by decide) (by decide) (by decide) (by decide))
        have xF : LFw V X := ⟨fun c p1 p2 p3 p4 p5 => by rw [x1.1 c p2 p3 p4 p5]; exact uF.1 c p1 p2 p3 p4 p5, fun j p1 p2 p3 p4 => by rw [x1.2 j p1 p2]; exact uF.2 j p1 p2 p3 p4⟩
        rw [x3.1]
        refine ⟨fun q => ?_, fun q => ?_⟩
        · have q0 : (yrl 1 S C).2.length = 0 := by omega
          rw [if_pos q0] at ey
          have ey' : yd t L i false C S = (-1, false, (yrl 1 S C).1, (yrl 1 S C).2) := ey
          obtain ⟨f1, f2, f3, f4, f5, f6⟩ := YI.fin wI ey'
          have e : res = (-1, i, (yrl 1 S C).1) := wR.symm.trans (YR_stop (by omega) ey' (by decide))
          rw [e]
          refine ⟨1, rfl, xF, hXX.1, Or.inl ⟨rfl, rfl, hXX.2.1, ?_, x3.2.2.1, x3.2.2.2, f5, ?_, c59⟩⟩
          · rw [x1.2 8 (by decide) (by decide)]; exact u8
          · dsimp only; omega
        · have q0 : ¬ (yrl 1 S C).2.length = 0 := by omega
          rw [if_neg q0] at ey
          rw [ftX hEX hXX (by omega)]
          refine ⟨0, rfl, ⟨fun c p1 p2 p3 p4 p5 => by rw [upm_off c p2]; exact xF.1 c p1 p2 p3 p4 p5, fun j p1 p2 p3 p4 => by rw [upm_k p4]; exact xF.2 j p1 p2 p3 p4⟩, by rw [upm_off 1 (by decide)]; exact hXX.1, Or.inr ?_⟩
          have e : res = (ftT t L i 1, i, C) := wR.symm.trans (YR_stop (by omega) ey (ft_nz (by omega)))
          rw [e]
          exact ⟨ft_pos (by omega), rfl, upm_s _ _ _ _⟩
    · have cd : due = true := by
        cases due with
        | true => rfl
        | false => rw [u6] at q6; exact absurd rfl q6
      subst cd
      exact (c_lawPart (d := d + 1) hEU u2 uA u6 (by omega) hln).use (stp (Or.inl rfl))
  exact up_ind (key N (Nat.le_refl _) (fun x => by omega)) (fun i hi ih => key i (by omega) (fun _ => ih))
theorem c_readLaw {i : Nat} (hS : ∀ e, TSg K (d + 1 + e)) (hE : TE V t L) (hX : XA V t L i) (hg : gT t L i ≠ 0) (hN : N ≤ 1000) (hP : psT t L N = L) (hi : i ≤ N) : Mi K (d + 4) mX5_readLaw [vR 4, vR 1] V (fun z V' => (V 4 7 = 0 ∧ V' 4 7 = 1 ∧ RLw t L (YR t L (i + 1) true [] []) (upm V 4 7 1) z V') ∨ (V 4 7 ≠ 0 ∧ z = 0 ∧ V' = upm V 4 8 (ftT t L i 3))) := by
  refine sX5_readLaw ⟨fun c => ?_, fun c => ?_⟩
  · have hi1 := tk_nx hP hi hg
    refine Wf.imp (show Wf K (d + 4) mX5_readLaw 44 [some (vR 4), some (vR 1), some (vI 0)] [] (upm (upm (upm (upm (upm V 4 7 1) 35 2 0) 4 4 0) 4 5 0) 4 6 1) (fun r V' => ∃ z, r = some (vI z) ∧ RLw t L (YR t L (i + 1) true [] []) (upm V 4 7 1) z V') from ?_) ?_
    · have lp := c_law_loop (d := d) (V := upm V 4 7 1) (res := YR t L (i + 1) true [] []) hS (hE.congr (upm_off 2 (by decide)) (upm_off 3 (by decide))) hN hP (by omega) (i + 1) hi1 (Nat.le_refl _) true [] [] (upm (upm (upm (upm (upm V 4 7 1) 35 2 0) 4 4 0) 4 5 0) 4 6 1) ⟨fun c p1 p2 p3 p4 p5 => by rw [upm_off c p2, upm_off c p2, upm_off c p2, upm_off c p3], fun j p1 p2 p3 p4 => by rw [upm_k p3, upm_k p2, upm_k p1, upm_off 4 (by decide)]⟩ (by rw [upm_off 1 (by decide), upm_off 1 (by decide), upm_off 1 (by decide), upm_off 1 (by decide), upm_off 1 (by decide)]; exact hX.1) (by rw [upm_off 1 (by decide), upm_off 1 (by decide), upm_off 1 (by decide), upm_off 1 (by decide), upm_off 1 (by decide)]; exact hX.2.1) (upm_s _ _ _ _) (by rw [upm_k (by decide), upm_k (by decide), upm_k (by decide), upm_off 4 (by decide)]) ⟨⟨by rw [upm_k (by decide), upm_k (by decide), upm_s]; rfl, trivial, by rw [upm_off 35 (by decide), upm_off 35 (by decide), upm_off 35 (by decide), upm_s]; rfl, trivial⟩, by rw [upm_k (by decide), upm_s]; rfl⟩ ⟨Nat.le_refl _, trivial, Nat.zero_le _, rfl⟩ rfl
      rw [Nat.sub_self] at lp
      exact lp
    · rintro r V' ⟨z, h1, h2⟩
      exact ⟨z, h1, Or.inl ⟨c, by rw [h2.1.2 7 (by decide) (by decide) (by decide) (by decide), upm_s], h2⟩⟩
  · rw [ftX hE hX (by omega)]
    exact ⟨0, rfl, Or.inr ⟨c, rfl, rfl⟩⟩
end CLL
