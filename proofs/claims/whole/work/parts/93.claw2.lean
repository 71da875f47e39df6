/-! ===== the class reads a law ===== -/
theorem yd_neg {t : Nat → Int} {L i : Nat} {due : Bool} {C : List (Int × Int)} {S : List Int} : (yd t L i due C S).1 = 0 ∨ ((yd t L i due C S).1 = -1 ∧ due = false ∧ cT t L i = 59) ∨ 0 < (yd t L i due C S).1 := by
  have p1 : 0 < ftT t L i 1 := ft_pos (by omega)
  have p5 : 0 < ftT t L i 5 := ft_pos (by omega)
  unfold yd
  by_cases cd : due = true
  · rw [if_pos cd]
    by_cases c1 : yst t L i = true
    · rw [if_pos c1]
      by_cases c2 : 5 ≤ yopn S
      · rw [if_pos c2]; exact Or.inr (Or.inr p5)
      · rw [if_neg c2]
        by_cases c3 : cT t L i = 140 ∨ cT t L i = 40
        · rw [if_pos c3]; exact Or.inl rfl
        · rw [if_neg c3]; exact Or.inl rfl
    · rw [if_neg c1]; exact Or.inr (Or.inr p1)
  · rw [if_neg cd]
    have cd' : due = false := by cases due with | true => exact absurd rfl cd | false => rfl
    by_cases c1 : cT t L i = 59
    · rw [if_pos c1]
      by_cases c2 : (yrl 1 S C).2.length = 0
      · rw [if_pos c2]; exact Or.inr (Or.inl ⟨rfl, cd', c1⟩)
      · rw [if_neg c2]; exact Or.inr (Or.inr p1)
    · rw [if_neg c1]
      by_cases c2 : cT t L i = 41
      · rw [if_pos c2]
        by_cases c3 : (yrl 1 S C).2.length = 0
        · rw [if_pos c3]; exact Or.inr (Or.inr p1)
        · rw [if_neg c3]; exact Or.inl rfl
      · rw [if_neg c2]
        by_cases c3 : yrk (cT t L i) = 0
        · rw [if_pos c3]; exact Or.inr (Or.inr p1)
        · rw [if_neg c3]
          by_cases c4 : yrk (cT t L i) = 2
          · rw [if_pos c4]
            by_cases c5 : ytp (yrl 3 S C).2 = 2
            · rw [if_pos c5]; exact Or.inr (Or.inr p1)
            · rw [if_neg c5]; exact Or.inl rfl
          · rw [if_neg c4]; exact Or.inl rfl
theorem yd_g {t : Nat → Int} {L i : Nat} {due : Bool} {C : List (Int × Int)} {S : List Int} (h : (yd t L i due C S).1 = 0) : gT t L i ≠ 0 := by
  have p1 : 0 < ftT t L i 1 := ft_pos (by omega)
  unfold yd at h
  by_cases cd : due = true
  · rw [if_pos cd] at h
    by_cases c1 : yst t L i = true
    · have h' : cT t L i = 140 ∨ cT t L i = 40 ∨ gT t L i = 3 ∨ (143 ≤ cT t L i ∧ cT t L i ≤ 146) := of_decide_eq_true c1
      by_cases q : gT t L i = 3
      · omega
      · exact c_g (by omega)
    · rw [if_neg c1] at h
      have h' : ftT t L i 1 = 0 := h
      omega
  · rw [if_neg cd] at h
    by_cases c0 : cT t L i = 0
    · rw [if_neg (by omega), if_neg (by omega), if_pos (by rw [c0]; decide)] at h
      have h' : ftT t L i 1 = 0 := h
      omega
    · exact c_g c0
/-- the class behind one token of a law, where the yard's step is r -/
def LSt (V : Mem) (r : Int × Bool × List (Int × Int) × List Int) (z : Int) (V' : Mem) : Prop := (∀ c, c ≠ 4 → c ≠ 35 → c ≠ 36 → c ≠ 42 → V' c = V c) ∧ (∀ j, j ≠ 4 → j ≠ 5 → j ≠ 6 → j ≠ 8 → V' 4 j = V 4 j) ∧ ((r.1 = 0 ∧ z = 1 ∧ V' 4 8 = V 4 8 ∧ V' 4 6 = (if r.2.1 = true then 1 else 0) ∧ LA V' r.2.2.1 r.2.2.2) ∨ (r.1 ≠ 0 ∧ z = 0 ∧ V' 4 8 = r.1))
section CLS
variable {K : KK} {d : Nat} {V : Mem} {C : List (Int × Int)} {S : List Int} {t : Nat → Int} {L N i : Nat}
theorem LSt.bad {U : Mem} {r : Int × Bool × List (Int × Int) × List Int} {f : Int} (h : LFx V U) (hr : r.1 = f) (hf : f ≠ 0) : ∃ z, some (vI 0) = some (vI z) ∧ LSt V r z (upm U 4 8 f) :=
  ⟨0, rfl, fun c p1 p2 p3 p4 => by rw [upm_off c p1]; exact h.1 c p1 p2 p3 p4, fun j p1 p2 _ p4 => by rw [upm_k p4]; exact h.2 j p1 p2, Or.inr ⟨by rw [hr]; exact hf, rfl, by rw [upm_s, hr]⟩⟩
theorem c_lawPart (hE : TE V t L) (hX : XA V t L i) (hA : LA V C S) (h6 : V 4 6 = 1) (hl : C.length + S.length ≤ 999) (hs : S.length ≤ 29) : Mi K (d + 2) mX5_takePart [vR 4, vR 1] V (LSt V (yd t L i true C S)) := by
  have h7 : V 1 7 = cT t L i := hX.2.2.2.2.1
  have h4 : V 1 4 = (gT t L i : Nat) := hX.2.2.1
  have ey : yd t L i true C S = if yst t L i = true then
      (if 5 ≤ yopn S then (ftT t L i 5, true, C, S)
       else if cT t L i = 140 ∨ cT t L i = 40 then (0, true, C, cT t L i :: S)
       else (0, false, yrn S (yptk t L i :: C)))
     else (ftT t L i 1, true, C, S) := if_pos rfl
  -- a part stands or opens
  have on : ∀ x2 : Int, yst t L i = true → (x2 = 0 ↔ ¬ (cT t L i = 140 ∨ cT t L i = 40)) → Wf K (d + 2) mX5_takePart 74 [some (vR 4), some (vR 1), some (vI x2), none] [] V (fun r V' => ∃ z, r = some (vI z) ∧ LSt V (yd t L i true C S) z V') := by
    intro x2 y hx
    refine sX5_takePart_74 _ ?_
    rw [hA.2, h4, h7, ftX hE hX (by omega)]
    rw [if_pos y] at ey
    refine ⟨fun q => ?_, fun q => ?_⟩
    · rw [if_neg (by omega)] at ey
      have put : ∀ s : Int, s = ccode (yptk t L i) → x2 = 0 → Wf K (d + 2) mX5_takePart 137 [some (vR 4), none, none, none] [vI s, vR 35] V (fun r V' => ∃ z, r = some (vI z) ∧ LSt V (yd t L i true C S) z V') := by
        intro s e h0
        rw [if_neg (hx.1 h0)] at ey
        refine sX5_takePart_137 _ (Mv.use (c_lawAdd (n := C.length) _ hA.1.2.2.1 (by omega)) ?_)
        intro V1 e1
        rw [e] at e1
        have b := hA.1.add (x := yptk t L i)
        rw [← e1] at b
        have e2 : (yptk t L i :: C).length = C.length + 1 := rfl
        refine Mv.use (c_releaseNots (d := d) S (yptk t L i :: C) V1 ⟨b, by rw [e1, upm_off 4 (by decide), upm_off 4 (by decide)]; exact hA.2⟩ (by omega) (by omega)).1 ?_
        rintro V2 ⟨f1, f2⟩
        have g : LFx V V2 := LFx.trans ⟨fun c p1 p2 p3 p4 => by rw [e1, upm_off c p2, upm_off c p3], fun j p1 p2 => by rw [e1, upm_off 4 (by decide), upm_off 4 (by decide)]⟩ f1
        rw [ey]
        exact ⟨1, rfl, fun c p1 p2 p3 p4 => by rw [upm_off c p1]; exact g.1 c p1 p2 p3 p4, fun j p1 p2 p3 p4 => by rw [upm_k p3]; exact g.2 j p1 p2, Or.inl ⟨rfl, rfl, by rw [upm_k (by decide)]; exact g.2 8 (by decide) (by decide), upm_s _ _ _ _, f2.1.congr (upm_k (by decide)) (upm_off 35 (by decide)) (upm_off 36 (by decide)) (upm_off 42 (by decide)), by rw [upm_k (by decide)]; exact f2.2⟩⟩
      refine ⟨fun h0 => ⟨fun g3 => put _ ?_ h0, fun g3 => put _ ?_ h0⟩, fun h0 => ?_⟩
      · have y' : cT t L i = 140 ∨ cT t L i = 40 ∨ gT t L i = 3 ∨ (143 ≤ cT t L i ∧ cT t L i ≤ 146) := of_decide_eq_true y
        have n := hx.1 h0
        have g : ¬ gT t L i = 3 := by omega
        unfold yptk
        rw [if_neg g, w32_id (by omega) (by omega)]
        unfold ccode
        rw [if_neg (by dsimp only; omega), if_pos rfl]
        dsimp only
        omega
      · have g : gT t L i = 3 := by omega
        unfold yptk
        rw [if_pos g, hX.2.2.2.2.2.1 g]
        rfl
      · have c3 : cT t L i = 140 ∨ cT t L i = 40 := by
          by_cases q : cT t L i = 140 ∨ cT t L i = 40
          · exact q
          · exact absurd (hx.2 q) h0
        rw [if_pos c3] at ey
        refine Mv.use (c_hold (C := C) (S := S) hA.1 (by omega)) ?_
        intro V1 e1
        have b := hA.1.hold (x := cT t L i)
        rw [← e1] at b
        have v5 : V1 4 5 = (yopn S : Nat) := by rw [e1, upm_k (by decide), upm_off 4 (by decide)]; exact hA.2
        have z : yrk (cT t L i) = 0 := by rcases c3 with x | x <;> rw [x] <;> decide
        rw [v5, w32_s (i := yopn S) (by omega), ey]
        have f : LFx V V1 := ⟨fun c p1 p2 p3 p4 => by rw [e1, upm_off c p1, upm_off c p4], fun j p1 p2 => by rw [e1, upm_k p1, upm_off 4 (by decide)]⟩
        refine ⟨1, rfl, fun c p1 p2 p3 p4 => by rw [upm_off c p1]; exact f.1 c p1 p2 p3 p4, fun j p1 p2 p3 p4 => by rw [upm_k p2]; exact f.2 j p1 p2, Or.inl ⟨rfl, rfl, by rw [upm_k (by decide)]; exact f.2 8 (by decide) (by decide), ?_, b.congr (upm_k (by decide)) (upm_off 35 (by decide)) (upm_off 36 (by decide)) (upm_off 42 (by decide)), ?_⟩⟩
        · rw [upm_k (by decide), f.2 6 (by decide) (by decide)]; exact h6
        · rw [upm_s]
          show _ = (((if yrk (cT t L i) = 0 then 1 else 0) + yopn S : Nat) : Int)
          rw [if_pos z]
          omega
    · rw [if_pos (by omega)] at ey
      exact LSt.bad LFx.rfl (by rw [ey]) (ft_nz (by omega))
  have at58 : ∀ s0 s : Int, (s0 = 0 ↔ ¬ (cT t L i = 140 ∨ cT t L i = 40)) → (s ≠ 0 → yst t L i = true) → (s0 = 0 → s = 0 → ¬ yst t L i = true) → Wf K (d + 2) mX5_takePart 58 [some (vR 4), some (vR 1), some (vI s0), none] [vI s] V (fun r V' => ∃ z, r = some (vI z) ∧ LSt V (yd t L i true C S) z V') := by
    intro s0 s hx h1 h2
    refine sX5_takePart_58 _ _ ⟨fun q => on s0 ?_ hx, fun q => ⟨fun q2 => on s0 (h1 q2) hx, fun q2 => ?_⟩⟩
    · have c3 : cT t L i = 140 ∨ cT t L i = 40 := by
        by_cases w : cT t L i = 140 ∨ cT t L i = 40
        · exact w
        · exact absurd (hx.2 w) q
      exact decide_eq_true (by omega)
    · rw [if_neg (h2 q q2)] at ey
      rw [ftX hE hX (by omega)]
      exact LSt.bad LFx.rfl (by rw [ey]) (ft_nz (by omega))
  have at24 : ∀ s0 : Int, (s0 = 0 ↔ ¬ (cT t L i = 140 ∨ cT t L i = 40)) → Wf K (d + 2) mX5_takePart 24 [some (vR 4), some (vR 1), none, none] [vI s0] V (fun r V' => ∃ z, r = some (vI z) ∧ LSt V (yd t L i true C S) z V') := by
    intro s0 hx
    refine sX5_takePart_24 _ ?_
    rw [h4, h7]
    refine ⟨fun q => sX5_takePart_53 _ (at58 s0 1 hx (fun _ => decide_eq_true (by omega)) (fun _ w => absurd w (by decide))), fun q => ⟨fun q2 => sX5_takePart_57 _ (at58 s0 0 hx (fun w => absurd rfl w) (fun w _ y => ?_)), fun q2 => ⟨fun q3 => sX5_takePart_57 _ (at58 s0 0 hx (fun w => absurd rfl w) (fun w _ y => ?_)), fun q3 => sX5_takePart_53 _ (at58 s0 1 hx (fun _ => decide_eq_true (by omega)) (fun _ w => absurd w (by decide)))⟩⟩⟩
    · have y' : cT t L i = 140 ∨ cT t L i = 40 ∨ gT t L i = 3 ∨ (143 ≤ cT t L i ∧ cT t L i ≤ 146) := of_decide_eq_true y
      have := hx.1 w
      omega
    · have y' : cT t L i = 140 ∨ cT t L i = 40 ∨ gT t L i = 3 ∨ (143 ≤ cT t L i ∧ cT t L i ≤ 146) := of_decide_eq_true y
      have := hx.1 w
      omega
  refine sX5_takePart ?_
  rw [h7]
  exact ⟨fun q => sX5_takePart_19 (at24 1 (by omega)), fun q => ⟨fun q2 => at24 0 (by omega), fun q2 => sX5_takePart_19 (at24 1 (by omega))⟩⟩
theorem c_lawOp (hE : TE V t L) (hX : XA V t L i) (hA : LA V C S) (h6 : V 4 6 = 0) (hl : C.length + S.length ≤ 999) (hs : S.length ≤ 29) (n59 : cT t L i ≠ 59) (n41 : cT t L i ≠ 41) : Mi K (d + 3) mX5_takeOperator [vR 4, vR 1] V (LSt V (yd t L i false C S)) := by
  have h7 : V 1 7 = cT t L i := hX.2.2.2.2.1
  have ey : yd t L i false C S = if yrk (cT t L i) = 0 then (ftT t L i 1, false, C, S)
    else if yrk (cT t L i) = 2 then (if ytp (yrl 3 S C).2 = 2 then (ftT t L i 1, false, C, S) else (0, true, (yrl 3 S C).1, cT t L i :: (yrl 3 S C).2))
    else (0, true, (yrl (yrk (cT t L i)) S C).1, cT t L i :: (yrl (yrk (cT t L i)) S C).2) := by
    unfold yd
    rw [if_neg (by decide), if_neg n59, if_neg n41]
  have len : ∀ (r : Nat) (S : List Int) (C : List (Int × Int)), (yrl r S C).2.length ≤ S.length := fun r S => by
    induction S with
    | nil => exact fun C => Nat.le_refl _
    | cons c S ih =>
      intro C
      have e : yrl r (c :: S) C = if r ≤ yrk c then yrl r S (yop c :: C) else (C, c :: S) := rfl
      rw [e]
      by_cases q : r ≤ yrk c
      · rw [if_pos q]
        have := ih (yop c :: C)
        have e1 : (c :: S).length = S.length + 1 := rfl
        omega
      · rw [if_neg q]; exact Nat.le_refl _
  have opn : ∀ (r : Nat), 1 ≤ r → ∀ (S : List Int) (C : List (Int × Int)), yopn (yrl r S C).2 = yopn S := fun r hr S => by
    induction S with
    | nil => exact fun C => rfl
    | cons c S ih =>
      intro C
      have e : yrl r (c :: S) C = if r ≤ yrk c then yrl r S (yop c :: C) else (C, c :: S) := rfl
      rw [e]
      by_cases q : r ≤ yrk c
      · rw [if_pos q, ih]
        show yopn S = (if yrk c = 0 then 1 else 0) + yopn S
        rw [if_neg (by omega), Nat.zero_add]
      · rw [if_neg q]
  -- hold it
  have put : ∀ (r : Nat), 1 ≤ r → yrk (cT t L i) ≠ 0 → yd t L i false C S = (0, true, (yrl r S C).1, cT t L i :: (yrl r S C).2) → ∀ W : Mem, LFx V W → W 4 5 = V 4 5 → LB W (yrl r S C).1 (yrl r S C).2 → Mf K (d + 2) mX5_hold [vR 4, vI (W 1 7)] W (fun r V1 => r = none ∧ ∃ z, some (vI 1) = some (vI z) ∧ LSt V (yd t L i false C S) z (upm V1 4 6 1)) := by
    intro r hr hk e W w1 w2 w3
    have w7 : W 1 7 = cT t L i := by rw [w1.1 1 (by decide) (by decide) (by decide) (by decide)]; exact h7
    have hl2 := len r S C
    rw [w7]
    refine Mv.use (c_hold w3 (by omega)) ?_
    intro V1 e1
    have b := w3.hold (x := cT t L i)
    rw [← e1] at b
    rw [e]
    have f : LFx V V1 := w1.trans ⟨fun c p1 p2 p3 p4 => by rw [e1, upm_off c p1, upm_off c p4], fun j p1 p2 => by rw [e1, upm_k p1, upm_off 4 (by decide)]⟩
    refine ⟨1, rfl, fun c p1 p2 p3 p4 => by rw [upm_off c p1]; exact f.1 c p1 p2 p3 p4, fun j p1 p2 p3 p4 => by rw [upm_k p3]; exact f.2 j p1 p2, Or.inl ⟨rfl, rfl, by rw [upm_k (by decide)]; exact f.2 8 (by decide) (by decide), upm_s _ _ _ _, b.congr (upm_k (by decide)) (upm_off 35 (by decide)) (upm_off 36 (by decide)) (upm_off 42 (by decide)), ?_⟩⟩
    rw [upm_k (by decide), e1, upm_k (by decide), upm_off 4 (by decide), w2, hA.2]
    show _ = (((if yrk (cT t L i) = 0 then 1 else 0) + yopn (yrl r S C).2 : Nat) : Int)
    rw [if_neg hk, opn r hr S C, Nat.zero_add]
  refine sX5_takeOperator ?_
  rw [h7]
  refine (c_rankOf (d := d + 2) _).use ⟨fun q => ⟨fun q2 => ?_, fun q2 => ?_⟩, fun q => ?_⟩
  · rw [if_neg (by omega), if_neg (by omega)] at ey
    refine Mv.use (c_release (d := d + 1) (r := yrk (cT t L i)) (by omega) S C V hA.1 (by omega) (by omega)).1 ?_
    rintro W ⟨w1, w2, w3⟩
    exact put _ (by omega) (by omega) ey W w1 w2 w3
  · rw [if_neg (by omega), if_pos (by omega)] at ey
    refine Mv.use (c_release (d := d + 1) (r := 3) (by omega) S C V hA.1 (by omega) (by omega)).1 ?_
    rintro W ⟨w1, w2, w3⟩
    have hl2 := len 3 S C
    rw [w3.1]
    have put3 := fun e => put 3 (by omega) (by omega) e W w1 w2 w3
    refine ⟨fun c0 => put3 ?_, fun c0 => ?_⟩
    · have n0 : (yrl 3 S C).2 = [] := List.eq_nil_of_length_eq_zero (by omega)
      rw [ey, if_neg (by rw [n0]; decide)]
    · generalize hX3 : yrl 3 S C = X at *
      obtain ⟨C1, S1⟩ := X
      cases S1 with
      | nil => exact absurd (Int.le_refl _) c0
      | cons b S1 =>
        have el : (b :: S1).length = S1.length + 1 := rfl
        have wb : W 42 S1.length = b := w3.2.1.1
        dsimp only at hl2 ey put3 w3 ⊢
        have et : ytp (b :: S1) = yrk b := rfl
        rw [el, ix88 (e := S1.length) (by omega), tn, wb]
        refine ⟨⟨by omega, by omega⟩, (c_rankOf (d := d + 2) b).use ⟨fun q3 => put3 ?_, fun q3 => ?_⟩⟩
        · rw [ey, if_neg (by omega)]
        · have hEW : TE W t L := hE.congr (w1.1 2 (by decide) (by decide) (by decide) (by decide)) (w1.1 3 (by decide) (by decide) (by decide) (by decide))
          have hXW : XA W t L i := hX.congr (w1.1 1 (by decide) (by decide) (by decide) (by decide))
          rw [ftX hEW hXW (by omega)]
          exact LSt.bad w1 (by rw [ey, if_pos (by omega)]) (ft_nz (by omega))
  · rw [if_pos (by omega)] at ey
    rw [ftX hE hX (by omega)]
    exact LSt.bad LFx.rfl (by rw [ey]) (ft_nz (by omega))
end CLS
