/-! ===== the reference's parts of a law ===== -/
def TOk (k : Nat) (t : Nat → Int) (L N i c : Nat) (V V' : Mem) (i' : Nat) (Q : List (Int × Int)) : Prop := MLf c V V' ∧ RS V' t L N i' ∧ V' 369 8 = 0 ∧ V' 369 12 = ((c + Q.length : Nat) : Int) ∧ mcd V' (1100 + c) Q ∧ Q.length + i ≤ i' ∧ ∀ C S, yopn S = k → YR t L i true C S = YR t L i' false (yrn S (Q ++ C)).1 (yrn S (Q ++ C)).2
def TBad (k : Nat) (t : Nat → Int) (L N i c : Nat) (V V' : Mem) : Prop := MLf c V V' ∧ (∃ i' c' : Nat, V' 369 7 = (i' : Int) ∧ i' ≤ N ∧ V' 369 12 = (c' : Int) ∧ c' + i ≤ c + i' ∧ i ≤ i' ∧ c ≤ c') ∧ 0 < V' 369 8 ∧ ∀ C S, yopn S = k → (YR t L i true C S).1 = V' 369 8
def TCt (K : KK) (d k : Nat) (t : Nat → Int) (L N : Nat) : Prop := ∀ (i c : Nat) (V : Mem), RS V t L N i → V 369 8 = 0 → V 369 12 = (c : Int) → c ≤ i → Mv K d mX12_takePart [vR 369, vI (k : Int)] V (fun V' => (∃ i' Q, TOk k t L N i c V V' i' Q) ∨ TBad k t L N i c V V')
theorem yrn_nt {S : List Int} {C : List (Int × Int)} (h : ynt S) : yrn S C = (C, S) := by
  cases S with
  | nil => rfl
  | cons c S =>
    have h' : c ≠ 140 := h
    show (if c = 140 then yrn S ((3, 0) :: C) else (C, c :: S)) = _
    rw [if_neg h']
theorem ix97 {s1 s2 : Int} (h : 0 ≤ s1 ∧ s1 ≤ 10) (h2 : 0 ≤ s2 ∧ s2 ≤ 9999) : w32 (s1 + w32 (16 * s2)) = s1 + 16 * s2 := by rw [w32_id (x := 16 * s2) (by omega) (by omega), w32_id (by omega) (by omega)]
section MLC
variable {K : KK} {d k : Nat} {t : Nat → Int} {L N : Nat}
theorem TCt.five (h : TCt K d k t L N) : LCt K d mX12_takePart 5 k t L N := by
  intro i c V hs h8 h12 hc
  refine Mv.use (h i c V hs h8 h12 hc) ?_
  rintro W (⟨i', Q, a1, a2, a3, a4, a5, a6, a7⟩ | ⟨b1, b2, b3, b4⟩)
  · refine Or.inl ⟨i', Q, a1, a2, a3, a4, a5, a6, fun C S h1 h2 => ⟨Q ++ C, S, ?_, yrl_stop h2.1, Or.inl ?_⟩⟩
    · rw [a7 C S h1, yrn_nt h2.2]
    · have := yrk4 (cT t L i')
      omega
  · exact Or.inr ⟨b1, b2, b3, fun C S h1 _ => b4 C S h1⟩
theorem m_lawPart (hL : L ≤ 1000) (hP : psT t L N = L) (hk : k ≤ 5) (hA : k < 5 → LCt K (d + 2) mX12_allOf 1 (k + 1) t L N) (hT : k < 5 → TCt K (d + 2) (k + 1) t L N) : TCt K (d + 3) k t L N := by
  intro i c V hs h8 h12 hc
  have a1 := hs.1
  have hi := hs.2.1
  have hN := hs.2.2.1
  have b1 : V 372 i = (psT t L i : Nat) := (hs.2.2.2.1 i hi).1
  have b2 : V 371 i = 2 ↔ gT t L i = 3 := by rw [(hs.2.2.2.1 i hi).2.1]; exact rso_n
  have b3 : gT t L i = 3 → V 373 i = nT t L i := (hs.2.2.2.1 i hi).2.2.2.1
  have ey : ∀ C S, yd t L i true C S = if yst t L i = true then
      (if 5 ≤ yopn S then (ftT t L i 5, true, C, S)
       else if cT t L i = 140 ∨ cT t L i = 40 then (0, true, C, cT t L i :: S)
       else (0, false, yrn S (yptk t L i :: C)))
     else (ftT t L i 1, true, C, S) := fun C S => if_pos rfl
  -- a fault here
  have flt : ∀ w : Int, 0 < w → (∀ C S, yopn S = k → (YR t L i true C S).1 = ftT t L i w) → ∀ x2 x3 : Int, Wf K (d + 3) mX12_takePart 79 [some (vR 369), some (vI (k : Int)), some (vI x2), some (vI x3)] [] (upm V 369 8 (ftT t L i w)) (fun r V' => r = none ∧ ((∃ i' Q, TOk k t L N i c V V' i' Q) ∨ TBad k t L N i c V V')) := by
    intro w hw hy x2 x3
    have hp := ft_pos (t := t) (L := L) (i := i) hw
    refine sX12_takePart_79 _ _ _ ⟨fun q => ?_, fun _ => ⟨rfl, Or.inr ⟨MLf.at8, ⟨i, c, by rw [upm_k (by decide)]; exact a1, hi, by rw [upm_k (by decide)]; exact h12, by omega, by omega, by omega⟩, by rw [upm_s]; exact hp, fun C S h1 => by rw [upm_s]; exact hy C S h1⟩⟩⟩
    rw [upm_s] at q
    omega
  -- a part that stands or opens
  have on : yst t L i = true → ∀ x2 x3 : Int, (x2 = 0 ↔ ¬ gT t L i = 3) → (¬ gT t L i = 3 → (143 ≤ cT t L i ∧ cT t L i ≤ 146) → x3 = cT t L i - 143) → Wf K (d + 3) mX12_takePart 69 [some (vR 369), some (vI (k : Int)), some (vI x2), some (vI x3)] [] V (fun r V' => r = none ∧ ((∃ i' Q, TOk k t L N i c V V' i' Q) ∨ TBad k t L N i c V V')) := by
    intro y x2 x3 hx2 hx3
    refine sX12_takePart_69 _ _ _ ⟨fun n5 => ?_, fun c5 => ⟨fun q => absurd h8 q, fun _ => ?_⟩⟩
    · have k5 : k < 5 := by omega
      have y' : cT t L i = 140 ∨ cT t L i = 40 ∨ gT t L i = 3 ∨ (143 ≤ cT t L i ∧ cT t L i ≤ 146) := of_decide_eq_true y
      have eo : ∀ C S, yopn S = k → (cT t L i = 140 ∨ cT t L i = 40) → YR t L i true C S = YR t L (i + 1) true C (cT t L i :: S) := fun C S h1 h2 => YR_go (by omega) (by rw [ey C S, if_pos y, if_neg (by omega), if_pos h2])
      have op1 : ∀ S, yopn S = k → (cT t L i = 140 ∨ cT t L i = 40) → yopn (cT t L i :: S) = k + 1 := fun S h1 h2 => by
        show (if yrk (cT t L i) = 0 then 1 else 0) + yopn S = k + 1
        have z : yrk (cT t L i) = 0 := by rcases h2 with x | x <;> rw [x] <;> decide
        rw [if_pos z]; omega
      refine sX12_takePart_79 _ _ _ ⟨fun _ => (m_hasWord (d := d + 1) (k := 12) hs (by decide) h8).use ?_, fun q => by omega⟩
      rintro z T ⟨z1, z2⟩
      rw [w32_s (i := k) (by omega)]
      by_cases q12 : cT t L i = 128 + ((12 : Nat) : Int)
      · rw [if_pos q12] at z1 z2
        have q140 : cT t L i = 140 := by omega
        have hn1 := tk_nx hP hi (c_g (by omega))
        rw [z1]
        refine ⟨fun x => absurd x (by decide), fun _ => ?_⟩
        have ts : RS T t L N (i + 1) := by rw [z2]; exact (MLf.at7 (c := 0)).rs hs (upm_s _ _ _ _) hn1
        refine Mv.use (hT k5 (i + 1) c T ts (by rw [z2, upm_k (by decide)]; exact h8) (by rw [z2, upm_k (by decide)]; exact h12) (by omega)) ?_
        have fT : MLf c V T := by rw [z2]; exact MLf.at7
        rintro X (⟨i2, Q2, c1, c2, c3, c4, c5, c6, c7⟩ | ⟨c1, ⟨j, c', j1, j2, j3, j4, j5, j6⟩, c3, c4⟩)
        · have hi2 := c2.2.1
          refine ⟨em_b c4 (by omega), rfl, Or.inl ⟨i2, (3, 0) :: Q2, ?_⟩⟩
          rw [em_eq c4 (by omega)]
          have el : (((3 : Int), (0 : Int)) :: Q2).length = Q2.length + 1 := rfl
          refine ⟨(fT.trans c1 (by omega)).trans MLf.eml (by omega), emt_rs c2, by rw [emt_8]; exact c3, by rw [emt_12, el]; omega, ⟨?_, ?_⟩, by omega, fun C S h1 => ?_⟩
          · rw [show 1100 + c + Q2.length = 1100 + (c + Q2.length) by omega, emt_c]; decide
          · exact mcd_congr (V := X) _ (fun j hj => (MLf.eml (V := X) (c := c + Q2.length)).2.2 j (by omega)) c5
          · rw [eo C S h1 (Or.inl q140), c7 C _ (op1 S h1 (Or.inl q140)), q140]
            rfl
        · refine ⟨em_b j3 (by omega), rfl, Or.inr ?_⟩
          rw [em_eq j3 (by omega)]
          refine ⟨(fT.trans c1 (by omega)).trans MLf.eml (by omega), ⟨j, c' + 1, by rw [emt_7]; exact j1, j2, emt_12, by omega, by omega, by omega⟩, by rw [emt_8]; exact c3, fun C S h1 => ?_⟩
          rw [eo C S h1 (Or.inl q140), emt_8]
          exact c4 C _ (op1 S h1 (Or.inl q140))
      · rw [if_neg q12] at z1 z2
        rw [z1, z2]
        refine ⟨fun _ => (m_hasSign (d := d + 1) hs (by decide) h8).use ?_, fun x => absurd rfl x⟩
        rintro u U ⟨u1, u2⟩
        by_cases q40 : cT t L i = 40
        · rw [if_pos q40] at u1 u2
          have hn1 := tk_nx hP hi (c_g (by omega))
          rw [u1]
          refine ⟨fun x => absurd x (by decide), fun _ => ?_⟩
          have ts : RS U t L N (i + 1) := by rw [u2]; exact (MLf.at7 (c := 0)).rs hs (upm_s _ _ _ _) hn1
          have fU : MLf c V U := by rw [u2]; exact MLf.at7
          refine Mv.use (hA k5 (i + 1) c U ts (by rw [u2, upm_k (by decide)]; exact h8) (by rw [u2, upm_k (by decide)]; exact h12) (by omega)) ?_
          have okS : ∀ S, okk 1 (cT t L i :: S) := fun S => ⟨by show yrk (cT t L i) < 1; rw [q40]; decide, by show cT t L i ≠ 140; omega⟩
          rintro X (⟨i2, Q2, c1, c2, c3, c4, c5, c6, c7⟩ | ⟨c1, ⟨j, c', j1, j2, j3, j4, j5, j6⟩, c3, c4⟩)
          · have hi2 := c2.2.1
            refine Mv.use (m_takeSign (d := d + 1) c2 hL (by decide) c3) ?_
            intro Y ey2
            by_cases q41 : cT t L i2 = 41
            · rw [if_pos q41] at ey2
              have hn2 := tk_nx hP hi2 (c_g (by omega))
              have fY : MLf c V Y := (fU.trans c1 (by omega)).trans (by rw [ey2]; exact MLf.at7) (Nat.le_refl _)
              refine ⟨rfl, Or.inl ⟨i2 + 1, Q2, fY, fY.rs hs (by rw [ey2, upm_s]) hn2, by rw [ey2, upm_k (by decide)]; exact c3, by rw [ey2, upm_k (by decide)]; exact c4, mcd_congr (V := X) Q2 (fun j _ => by rw [ey2, upm_off 376 (by decide)]) c5, by omega, fun C S h1 => ?_⟩⟩
              obtain ⟨C1, S1, e1, e2, e3⟩ := c7 C _ (op1 S h1 (Or.inr q40)) (okS S)
              rw [eo C S h1 (Or.inr q40), e1]
              refine YR_go (by omega) ?_
              unfold yd
              rw [if_neg (by decide), if_neg (by omega), if_pos q41, e2, if_neg (by show ¬ S.length + 1 = 0; omega)]
              rfl
            · rw [if_neg q41] at ey2
              have hp := ft_pos (t := t) (L := L) (i := i2) (w := 1) (by omega)
              have fY : MLf c V Y := (fU.trans c1 (by omega)).trans (by rw [ey2]; exact MLf.at8) (Nat.le_refl _)
              have y8 : Y 369 8 = ftT t L i2 1 := by rw [ey2, upm_s]
              refine ⟨rfl, Or.inr ⟨fY, ⟨i2, c + Q2.length, by rw [ey2, upm_k (by decide)]; exact c2.1, hi2, by rw [ey2, upm_k (by decide)]; exact c4, by omega, by omega, by omega⟩, by rw [y8]; exact hp, fun C S h1 => ?_⟩⟩
              obtain ⟨C1, S1, e1, e2, e3⟩ := c7 C _ (op1 S h1 (Or.inr q40)) (okS S)
              rw [eo C S h1 (Or.inr q40), e1, y8]
              have yf : yd t L i2 false C1 S1 = (ftT t L i2 1, false, C1, S1) := by
                unfold yd
                rw [if_neg (by decide)]
                by_cases q59 : cT t L i2 = 59
                · rw [if_pos q59, e2, if_neg (by show ¬ S.length + 1 = 0; omega)]
                · rw [if_neg q59, if_neg q41]
                  rcases e3 with e3 | ⟨_, e3, e4⟩
                  · rw [if_pos (by omega)]
                  · rw [if_neg (by omega), if_pos e3, if_pos e4]
              rw [YR_stop (by omega) yf (by omega)]
          · refine Mv.use (m_takeSign0 (d := d + 1) (by omega)) ?_
            intro Y ey2
            rw [ey2]
            refine ⟨rfl, Or.inr ⟨fU.trans c1 (by omega), ⟨j, c', j1, j2, j3, by omega, by omega, by omega⟩, c3, fun C S h1 => ?_⟩⟩
            rw [eo C S h1 (Or.inr q40)]
            exact c4 C _ (op1 S h1 (Or.inr q40)) (okS S)
        · rw [if_neg q40] at u1 u2
          rw [u1, u2]
          have nc : ¬ (cT t L i = 140 ∨ cT t L i = 40) := by omega
          have hg : gT t L i ≠ 0 := by
            by_cases g3 : gT t L i = 3
            · omega
            · exact c_g (by omega)
          have hn1 := tk_nx hP hi hg
          -- the token itself
          have put : ∀ s1 s2 : Int, yptk t L i = (s1, s2) → Wf K (d + 3) mX12_takePart 165 [some (vR 369), none, none, none] [vI s2, vI s1, vR 369] V (fun r V' => r = none ∧ ((∃ i' Q, TOk k t L N i c V V' i' Q) ∨ TBad k t L N i c V V')) := by
            intro s1 s2 e
            obtain ⟨tk, tk2⟩ := yptk_ok y nc
            rw [e] at tk tk2
            have bd : (0 ≤ s1 ∧ s1 ≤ 10) ∧ (0 ≤ s2 ∧ s2 ≤ 9999) := by
              unfold tokok at tk
              dsimp only at tk tk2
              omega
            refine sX12_takePart_165 _ _ ?_
            rw [em_eq h12 (by omega), emt_7, a1, w32_s (i := i) (by omega), ix97 bd.1 bd.2]
            have fY : MLf c V (upm (emt V c (s1 + 16 * s2)) 369 7 ((i + 1 : Nat) : Int)) := MLf.eml.trans MLf.at7 (Nat.le_refl _)
            refine ⟨em_b h12 (by omega), rfl, Or.inl ⟨i + 1, [yptk t L i], fY, fY.rs hs (upm_s _ _ _ _) hn1, by rw [upm_k (by decide), emt_8]; exact h8, by rw [upm_k (by decide), emt_12]; rfl, ⟨?_, trivial⟩, by show 1 + i ≤ i + 1; omega, fun C S h1 => ?_⟩⟩
            · rw [e]
              show (upm (emt V c (s1 + 16 * s2)) 369 7 ((i + 1 : Nat) : Int)) 376 (1100 + c) = s1 + 16 * s2
              rw [upm_off 376 (by decide), emt_c]
            · refine YR_go (by omega) ?_
              rw [ey C S, if_pos y, if_neg (by omega), if_neg nc]
              rfl
          refine ⟨fun _ => ⟨fun x0 => ?_, fun x0 => ?_⟩, fun x => absurd rfl x⟩
          · have g3 := hx2.1 x0
            refine sX12_takePart_147 _ _ _ ⟨fun _ => put 2 x3 ?_, fun x => absurd x0 x⟩
            unfold yptk
            rw [if_neg g3, hx3 g3 (by omega)]
          · have g3 : gT t L i = 3 := by
              by_cases g3 : gT t L i = 3
              · exact g3
              · exact absurd (hx2.2 g3) x0
            have nb : 0 ≤ nT t L i ∧ nT t L i ≤ 9999 := tk_n g3
            refine sX12_takePart_147 _ _ _ ⟨fun x => absurd x x0, fun _ => ?_⟩
            rw [a1, tn, b3 g3, ix74c nb]
            refine ⟨⟨by omega, by omega⟩, put 1 (nT t L i) ?_⟩
            unfold yptk
            rw [if_pos g3]
    · rw [a1, tn, b1, ftT_w hL (by omega)]
      refine ⟨⟨by omega, by omega⟩, flt 5 (by omega) (fun C S h1 => ?_) _ _⟩
      rw [YR_stop (by omega) (by rw [ey C S, if_pos y, if_pos (by omega)]) (ft_nz (by omega))]
  have at26 : ∀ s0 : Int, (s0 = 0 ↔ ¬ gT t L i = 3) → Wf K (d + 3) mX12_takePart 26 [some (vR 369), some (vI (k : Int)), none, none] [vI s0] V (fun r V' => r = none ∧ ((∃ i' Q, TOk k t L N i c V V' i' Q) ∨ TBad k t L N i c V V')) := by
    intro s0 hs0
    refine sX12_takePart_26 _ _ ((m_wordHere (d := d + 1) (a := 15) (m := 4) hs (by decide) h8).use ?_)
    have w1 : (143 ≤ cT t L i ∧ cT t L i ≤ 146) → whT (cT t L i) 15 4 = cT t L i - 143 := fun q => by
      unfold whT
      rw [if_pos (by omega)]
      omega
    have w2 : ¬ (143 ≤ cT t L i ∧ cT t L i ≤ 146) → whT (cT t L i) 15 4 = -1 := fun q => by
      unfold whT
      rw [if_neg (by omega)]
    refine ⟨fun q => on (decide_eq_true ?_) _ _ hs0 (fun _ h => w1 h), fun q => ⟨fun q0 => on (decide_eq_true ?_) _ _ hs0 (fun _ h => w1 h), fun q0 => (m_isSign (d := d + 2) hs (by decide) h8).use ?_⟩⟩
    · by_cases f : 143 ≤ cT t L i ∧ cT t L i ≤ 146
      · exact Or.inr (Or.inr (Or.inr f))
      · rw [w2 f] at q; omega
    · by_cases g3 : gT t L i = 3
      · exact Or.inr (Or.inr (Or.inl g3))
      · exact absurd (hs0.2 g3) q0
    · by_cases q40 : cT t L i = 40
      · rw [if_pos q40]
        exact ⟨fun _ => on (decide_eq_true (Or.inr (Or.inl q40))) _ _ hs0 (fun _ h => w1 h), fun x => absurd x (by decide)⟩
      · rw [if_neg q40]
        refine ⟨fun x => absurd rfl x, fun _ => (m_isWord (d := d + 2) (k := 12) hs (by decide) h8).use ?_⟩
        by_cases q12 : cT t L i = 128 + ((12 : Nat) : Int)
        · rw [if_pos q12]
          exact ⟨fun _ => on (decide_eq_true (Or.inl (by omega))) _ _ hs0 (fun _ h => w1 h), fun x => absurd x (by decide)⟩
        · rw [if_neg q12]
          refine ⟨fun x => absurd rfl x, fun _ => ⟨fun x => absurd h8 x, fun _ => ?_⟩⟩
          rw [a1, tn, b1, ftT_w hL (by omega)]
          have ny : ¬ yst t L i = true := fun y => by
            have y' : cT t L i = 140 ∨ cT t L i = 40 ∨ gT t L i = 3 ∨ (143 ≤ cT t L i ∧ cT t L i ≤ 146) := of_decide_eq_true y
            rcases y' with y' | y' | y' | y'
            · omega
            · omega
            · exact (hs0.1 q0) y'
            · rw [w1 y'] at q; omega
          refine ⟨⟨by omega, by omega⟩, flt 1 (by omega) (fun C S h1 => ?_) _ _⟩
          rw [YR_stop (by omega) (by rw [ey C S, if_neg ny]) (ft_nz (by omega))]
  refine sX12_takePart _ ⟨fun _ => ?_, fun q => by omega⟩
  rw [a1, tn, b2]
  exact ⟨⟨by omega, by omega⟩, fun q => at26 0 (by omega), fun q => at26 1 (by omega)⟩
theorem m_laws (hL : L ≤ 1000) (hP : psT t L N = L) : ∀ e k : Nat, k + e = 5 → ∀ d, TCt K (d + 5 * e + 3) k t L N ∧ LCt K (d + 5 * e + 7) mX12_allOf 1 k t L N := by
  have up : ∀ d k, TCt K (d + 3) k t L N → LCt K (d + 7) mX12_allOf 1 k t L N := fun d k h => m_allOf (d := d + 1) hL hP (m_test (d := d + 1) hL hP (m_sums (d := d + 1) hL hP (m_products (d := d + 1) hL hP h.five)))
  intro e
  induction e with
  | zero =>
    intro k hk d
    have h : TCt K (d + 5 * 0 + 3) k t L N := m_lawPart hL hP (by omega) (fun q => by omega) (fun q => by omega)
    exact ⟨h, up _ _ h⟩
  | succ e ih =>
    intro k hk d
    have h : TCt K (d + 5 * (e + 1) + 3) k t L N := by
      rw [show d + 5 * (e + 1) + 3 = (d + 5 * e + 5) + 3 by omega]
      refine m_lawPart hL hP (by omega) (fun _ => (ih (k + 1) (by omega) d).2) (fun _ => ?_)
      have := (ih (k + 1) (by omega) (d + 4)).1
      rw [show d + 4 + 5 * e + 3 = d + 5 * e + 5 + 2 by omega] at this
      exact this
    exact ⟨h, up _ _ h⟩
end MLC
