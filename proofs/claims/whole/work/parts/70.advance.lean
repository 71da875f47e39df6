/-! ===== the class's next token ===== -/
def isSb (c : Int) : Bool := decide (c = 40 ∨ c = 41 ∨ c = 42 ∨ c = 43 ∨ c = 45 ∨ c = 59 ∨ c = 60 ∨ c = 61)
/-- behind the token at p -/
def tkE (t : Nat → Int) (L p : Nat) : Nat := if L ≤ p then p else if isLb (t p) = true then rnK isLb t L p else if isDb (t p) = true then rnK isDb t L p else p + 1
/-- its sort: 0 the end, 1 none, 2 word, 3 number, 4 sign -/
def tkG (t : Nat → Int) (L p : Nat) : Nat := if L ≤ p then 0 else if isLb (t p) = true then (if rnK isLb t L p ≤ p + 8 then 2 else 1) else if isDb (t p) = true then (if rnK isDb t L p ≤ p + 4 then 3 else 1) else if isSb (t p) = true then 4 else 1
def tkW (b : Int) (t : Nat → Int) (L p : Nat) : Int := pkw b (fun i => t (p + i) - 96) (rnK isLb t L p - p)
def tkN (t : Nat → Int) (L p : Nat) : Int := pkw 10 (fun i => t (p + i) - 48) (rnK isDb t L p - p)
def tkC (t : Nat → Int) (L p : Nat) : Int := if tkG t L p = 2 then kcS (tkW 32 t L p) 19 else if tkG t L p = 4 then t p else 0
/-- the class stands at the token at p -/
def AtT (V : Mem) (t : Nat → Int) (L p : Nat) : Prop := V 1 2 = (L : Nat) ∧ V 1 3 = (tkE t L p : Nat) ∧ V 1 4 = (tkG t L p : Nat) ∧ V 1 5 = (p : Nat) ∧ V 1 7 = tkC t L p ∧ (tkG t L p = 3 → V 1 6 = tkN t L p) ∧ (tkG t L p = 2 → V 1 8 = tkW 32 t L p)
/-- what takeSign does (its text is a String's indexOf) -/
def TSg (K : KK) (d : Nat) : Prop := ∀ (V : Mem) (t : Nat → Int) (L p : Nat), Tap V t L p → p < L → (0 ≤ t p ∧ t p ≤ 126) → Mv K d mX9_takeSign [vR 1] V (fun V' => (∀ c, c ≠ 1 → V' c = V c) ∧ (∀ j, j ≠ 3 → j ≠ 4 → j ≠ 7 → V' 1 j = V 1 j) ∧ V' 1 3 = ((p + 1 : Nat) : Int) ∧ ((isSb (t p) = true ∧ V' 1 4 = 4 ∧ V' 1 7 = t p) ∨ (isSb (t p) = false ∧ V' 1 4 = 1 ∧ V' 1 7 = V 1 7)))
section TKD
variable {K : KK} {d : Nat} {V : Mem}
theorem c_takeNumber {t : Nat → Int} {L p : Nat} (hT : Tap V t L p) (h5 : V 1 5 = p) (h6 : V 1 6 = 0) : Mv K (d + 1) mX9_takeNumber [vR 1] V (fun V' => (∀ c, c ≠ 1 → V' c = V c) ∧ (∀ j, j ≠ 3 → j ≠ 4 → j ≠ 6 → V' 1 j = V 1 j) ∧ V' 1 3 = rnK isDb t L p ∧ ((rnK isDb t L p ≤ p + 4 ∧ V' 1 4 = 3 ∧ V' 1 6 = tkN t L p) ∨ (p + 4 < rnK isDb t L p ∧ V' 1 4 = 1))) := by
  have hL := hT.2.2.2.1
  have hp := hT.2.2.1
  obtain ⟨r1, r2, r3⟩ := rnK_b (P := isDb) (t := t) hp
  have fin : ∀ V' : Mem, (∀ c, c ≠ 1 → V' c = V c) → (∀ j, j ≠ 3 → j ≠ 6 → V' 1 j = V 1 j) → V' 1 3 = (rnK isDb t L p : Nat) → V' 1 6 = nch t p (rnK isDb t L p - p) → (4 < w32 (V' 1 3 - V' 1 5) → (none : Option AV) = none ∧ (∀ c, c ≠ 1 → (upm V' 1 4 1) c = V c) ∧ (∀ j, j ≠ 3 → j ≠ 4 → j ≠ 6 → (upm V' 1 4 1) 1 j = V 1 j) ∧ (upm V' 1 4 1) 1 3 = rnK isDb t L p ∧ ((rnK isDb t L p ≤ p + 4 ∧ (upm V' 1 4 1) 1 4 = 3 ∧ (upm V' 1 4 1) 1 6 = tkN t L p) ∨ (p + 4 < rnK isDb t L p ∧ (upm V' 1 4 1) 1 4 = 1))) ∧ (¬ 4 < w32 (V' 1 3 - V' 1 5) → (none : Option AV) = none ∧ (∀ c, c ≠ 1 → (upm V' 1 4 3) c = V c) ∧ (∀ j, j ≠ 3 → j ≠ 4 → j ≠ 6 → (upm V' 1 4 3) 1 j = V 1 j) ∧ (upm V' 1 4 3) 1 3 = rnK isDb t L p ∧ ((rnK isDb t L p ≤ p + 4 ∧ (upm V' 1 4 3) 1 4 = 3 ∧ (upm V' 1 4 3) 1 6 = tkN t L p) ∨ (p + 4 < rnK isDb t L p ∧ (upm V' 1 4 3) 1 4 = 1))) := by
    intro V' g1 g2 g3 g6
    have hdig : ∀ i, i < rnK isDb t L p - p → 48 ≤ t (p + i) ∧ t (p + i) ≤ 57 := fun i hi => of_decide_eq_true (r3 (p + i) (by omega) (by omega))
    have e5 : V' 1 5 = (p : Int) := by rw [g2 5 (by omega) (by omega)]; exact h5
    unfold tkN
    rw [g3, e5, w32_id (x := ((rnK isDb t L p : Nat) : Int) - (p : Int)) (by omega) (by omega)]
    generalize rnK isDb t L p = e at *
    refine ⟨fun c => ⟨rfl, fun c q => by rw [upm_off c q]; exact g1 c q, fun j q1 q2 q3 => by rw [upm_k q2]; exact g2 j q1 q3, by rw [upm_k (by decide)]; exact g3, Or.inr ⟨by omega, upm_s _ _ _ _⟩⟩, fun c => ⟨rfl, fun c q => by rw [upm_off c q]; exact g1 c q, fun j q1 q2 q3 => by rw [upm_k q2]; exact g2 j q1 q3, by rw [upm_k (by decide)]; exact g3, Or.inl ⟨by omega, upm_s _ _ _ _, ?_⟩⟩⟩
    rw [upm_k (by decide), g6]
    exact nch_p _ (by omega) hdig
  have wqB : ∀ k, k ≤ L → p ≤ k → rnK isDb t L k = rnK isDb t L p → ∀ V' : Mem, (∀ c, c ≠ 1 → V' c = V c) → (∀ j, j ≠ 3 → j ≠ 6 → V' 1 j = V 1 j) → V' 1 3 = (k : Int) → V' 1 6 = nch t p (k - p) → Wf K (d + 1) mX9_takeNumber 0 [some (vR 1)] [] V' (fun r V' => r = none ∧ (∀ c, c ≠ 1 → V' c = V c) ∧ (∀ j, j ≠ 3 → j ≠ 4 → j ≠ 6 → V' 1 j = V 1 j) ∧ V' 1 3 = rnK isDb t L p ∧ ((rnK isDb t L p ≤ p + 4 ∧ V' 1 4 = 3 ∧ V' 1 6 = tkN t L p) ∨ (p + 4 < rnK isDb t L p ∧ V' 1 4 = 1))) := by
    refine up_ind ?_ ?_
    · intro hl he V' g1 g2 g3 g6
      have ee : rnK isDb t L L = L := rnK_st (by omega)
      rw [ee] at he
      refine sX9_takeNumber_0 ⟨fun _ => fin V' g1 g2 (by rw [← he]; exact g3) (by rw [← he]; exact g6), fun c => absurd ?_ c⟩
      rw [g3, g2 2 (by omega) (by omega), hT.1]; exact Int.le_refl _
    · intro k hk ih hl he V' g1 g2 g3 g6
      have ht : Tap V' t L k := ⟨by rw [g2 2 (by omega) (by omega)]; exact hT.1, g3, by omega, hL, fun i hi => by rw [g1 2 (by decide)]; exact hT.2.2.2.2 i hi⟩
      refine sX9_takeNumber_0 ⟨fun c => absurd c (by rw [g3, g2 2 (by omega) (by omega), hT.1]; omega), fun _ => ?_⟩
      rw [tap_ix ht hk]
      refine ⟨by rw [g3]; exact ⟨by omega, by omega⟩, (c_isDigit (d := d) (t k)).use ?_⟩
      by_cases c : isDb (t k) = true
      · rw [if_pos c]
        refine ⟨fun q => absurd q (by decide), fun _ => ⟨by rw [g3]; exact ⟨by omega, by omega⟩, ?_⟩⟩
        rw [tap_ix ht hk, upm_k (show (3 : Nat) ≠ 6 by decide), g3, w32_s (i := k) (by omega), g6]
        refine ih (by omega) (by rw [← he]; exact (rnK_go hk c).symm) _ (fun x q => by rw [upm_off x q, upm_off x q]; exact g1 x q) (fun j q1 q2 => by rw [upm_k q1, upm_k q2]; exact g2 j q1 q2) (upm_s _ _ _ _) ?_
        rw [upm_k (by decide), upm_s, show k + 1 - p = (k - p) + 1 by omega]
        show _ = w32 (w32 (nch t p (k - p) * 10) + w32 (t (p + (k - p)) - 48))
        rw [show p + (k - p) = k by omega]
      · rw [if_neg c]
        refine ⟨fun _ => ?_, fun q => absurd rfl q⟩
        rw [rnK_st (fun q => c q.2)] at he
        exact fin V' g1 g2 (by rw [← he]; exact g3) (by rw [← he]; exact g6)
  refine sX9_takeNumber ?_
  by_cases c : p < L
  · refine ⟨fun q => absurd q (by rw [hT.1, hT.2.1]; omega), fun _ => ?_⟩
    rw [tap_ix hT c]
    refine ⟨by rw [hT.2.1]; exact ⟨by omega, by omega⟩, (c_isDigit (d := d) (t p)).use ?_⟩
    by_cases c2 : isDb (t p) = true
    · rw [if_pos c2]
      refine ⟨fun q => absurd q (by decide), fun _ => ⟨by rw [hT.2.1]; exact ⟨by omega, by omega⟩, ?_⟩⟩
      rw [tap_ix hT c, upm_k (show (3 : Nat) ≠ 6 by decide), hT.2.1, w32_s (i := p) (by omega), h6]
      refine wqB (p + 1) (by omega) (by omega) (rnK_go c c2).symm _ (fun x q => by rw [upm_off x q, upm_off x q]) (fun j q1 q2 => by rw [upm_k q1, upm_k q2]) (upm_s _ _ _ _) ?_
      rw [upm_k (by decide), upm_s, show p + 1 - p = 0 + 1 by omega]
      show _ = w32 (w32 (0 * 10) + w32 (t (p + 0) - 48))
      rw [Nat.add_zero]
    · rw [if_neg c2]
      refine ⟨fun _ => ?_, fun q => absurd rfl q⟩
      have es : rnK isDb t L p = p := rnK_st (fun q => c2 q.2)
      exact fin V (fun _ _ => rfl) (fun _ _ _ => rfl) (by rw [es]; exact hT.2.1) (by rw [es, Nat.sub_self]; exact h6)
  · refine ⟨fun _ => ?_, fun q => absurd (by rw [hT.1, hT.2.1]; omega) q⟩
    have es : rnK isDb t L p = p := rnK_st (fun q => c q.1)
    exact fin V (fun _ _ => rfl) (fun _ _ _ => rfl) (by rw [es]; exact hT.2.1) (by rw [es, Nat.sub_self]; exact h6)
theorem c_advance (hS : TSg K (d + 1)) {t : Nat → Int} {L k : Nat} (hT : Tap V t L k) (hK : ∀ i, i < 19 → V 3 i = kw32 i) (ht : ∀ i, i < L → 0 ≤ t i ∧ t i ≤ 126) : Mv K (d + 2) mX9_advance [vR 1] V (fun V' => (∀ c, c ≠ 1 → V' c = V c) ∧ AtT V' t L (rnK isBb t L k)) := by
  have hL := hT.2.2.2.1
  have hk := hT.2.2.1
  obtain ⟨r1, r2, r3⟩ := rnK_b (P := isBb) (t := t) hk
  have fin : ∀ V' : Mem, (∀ c, c ≠ 1 → V' c = V c) → V' 1 2 = V 1 2 → V' 1 3 = (rnK isBb t L k : Nat) → Wf K (d + 2) mX9_advance 52 [some (vR 1)] [] V' (fun r V' => r = none ∧ (∀ c, c ≠ 1 → V' c = V c) ∧ AtT V' t L (rnK isBb t L k)) := by
    intro V' g1 g2 g3
    generalize rnK isBb t L k = p at *
    refine sX9_advance_52 ?_
    rw [g3]
    generalize hU : upm (upm (upm (upm V' 1 5 ((p : Nat) : Int)) 1 6 0) 1 7 0) 1 8 0 = U
    have u1 : ∀ c, c ≠ 1 → U c = V c := fun c q => by rw [← hU, upm_off c q, upm_off c q, upm_off c q, upm_off c q]; exact g1 c q
    have u2 : U 1 2 = (L : Int) := by rw [← hU, upm_k (by decide), upm_k (by decide), upm_k (by decide), upm_k (by decide), g2]; exact hT.1
    have u3 : U 1 3 = (p : Int) := by rw [← hU, upm_k (by decide), upm_k (by decide), upm_k (by decide), upm_k (by decide)]; exact g3
    have u5 : U 1 5 = (p : Int) := by rw [← hU, upm_k (by decide), upm_k (by decide), upm_k (by decide), upm_s]
    have u6 : U 1 6 = 0 := by rw [← hU, upm_k (by decide), upm_k (by decide), upm_s]
    have u7 : U 1 7 = 0 := by rw [← hU, upm_k (by decide), upm_s]
    have u8 : U 1 8 = 0 := by rw [← hU, upm_s]
    clear hU
    have hT' : Tap U t L p := ⟨u2, u3, r2, hL, fun i hi => by rw [u1 2 (by decide)]; exact hT.2.2.2.2 i hi⟩
    rw [u2, u3, tn]
    refine ⟨fun c => ?_, fun c => ⟨rfl, fun c q => by rw [upm_off c q]; exact u1 c q, ?_⟩⟩
    · have c' : p < L := by omega
      have cn : ¬ L ≤ p := by omega
      rw [hT'.2.2.2.2 p c']
      refine ⟨⟨by omega, by omega⟩, (c_isLetter (d := d + 1) (t p)).use ?_⟩
      by_cases b1 : isLb (t p) = true
      · rw [if_pos b1]
        refine ⟨fun q => absurd q (by decide), fun _ => (c_takeWord (d := d) hT' u5 u8 u7 (fun i hi => by rw [u1 3 (by decide)]; exact hK i hi)).imp ?_⟩
        rintro r W ⟨w0, w1, w2, w3, w4⟩
        refine ⟨w0, rfl, fun c q => by rw [w1 c q]; exact u1 c q, ?_⟩
        have eE : tkE t L p = rnK isLb t L p := by unfold tkE; rw [if_neg cn, if_pos b1]
        rcases w4 with ⟨x1, x2, x3, x4⟩ | ⟨x1, x2, x3⟩
        · have eG : tkG t L p = 2 := by unfold tkG; rw [if_neg cn, if_pos b1, if_pos x1]
          refine ⟨by rw [w2 2 (by omega)]; exact u2, by rw [eE]; exact w3, by rw [eG]; exact x2, by rw [w2 5 (by omega)]; exact u5, ?_, fun q => by omega, fun _ => x3⟩
          unfold tkC
          rw [if_pos eG]
          exact x4
        · have eG : tkG t L p = 1 := by unfold tkG; rw [if_neg cn, if_pos b1, if_neg (by omega)]
          refine ⟨by rw [w2 2 (by omega)]; exact u2, by rw [eE]; exact w3, by rw [eG]; exact x2, by rw [w2 5 (by omega)]; exact u5, ?_, fun q => by omega, fun q => by omega⟩
          unfold tkC
          rw [eG]
          exact x3
      · rw [if_neg b1]
        refine ⟨fun _ => ?_, fun q => absurd rfl q⟩
        rw [u3, tn, hT'.2.2.2.2 p c']
        refine ⟨⟨by omega, by omega⟩, (c_isDigit (d := d + 1) (t p)).use ?_⟩
        by_cases b2 : isDb (t p) = true
        · rw [if_pos b2]
          refine ⟨fun q => absurd q (by decide), fun _ => (c_takeNumber (d := d) hT' u5 u6).imp ?_⟩
          rintro r W ⟨w0, w1, w2, w3, w4⟩
          refine ⟨w0, rfl, fun c q => by rw [w1 c q]; exact u1 c q, ?_⟩
          have eE : tkE t L p = rnK isDb t L p := by unfold tkE; rw [if_neg cn, if_neg b1, if_pos b2]
          have e7 : W 1 7 = 0 := by rw [w2 7 (by omega) (by omega) (by omega)]; exact u7
          rcases w4 with ⟨x1, x2, x3⟩ | ⟨x1, x2⟩
          · have eG : tkG t L p = 3 := by unfold tkG; rw [if_neg cn, if_neg b1, if_pos b2, if_pos x1]
            refine ⟨by rw [w2 2 (by omega) (by omega) (by omega)]; exact u2, by rw [eE]; exact w3, by rw [eG]; exact x2, by rw [w2 5 (by omega) (by omega) (by omega)]; exact u5, ?_, fun _ => x3, fun q => by omega⟩
            unfold tkC
            rw [eG]
            exact e7
          · have eG : tkG t L p = 1 := by unfold tkG; rw [if_neg cn, if_neg b1, if_pos b2, if_neg (by omega)]
            refine ⟨by rw [w2 2 (by omega) (by omega) (by omega)]; exact u2, by rw [eE]; exact w3, by rw [eG]; exact x2, by rw [w2 5 (by omega) (by omega) (by omega)]; exact u5, ?_, fun q => by omega, fun q => by omega⟩
            unfold tkC
            rw [eG]
            exact e7
        · rw [if_neg b2]
          refine ⟨fun _ => (hS U t L p hT' c' (ht p c')).imp ?_, fun q => absurd rfl q⟩
          rintro r W ⟨w0, w1, w2, w3, w4⟩
          refine ⟨w0, rfl, fun c q => by rw [w1 c q]; exact u1 c q, ?_⟩
          have eE : tkE t L p = p + 1 := by unfold tkE; rw [if_neg cn, if_neg b1, if_neg b2]
          rcases w4 with ⟨x1, x2, x3⟩ | ⟨x1, x2, x3⟩
          · have eG : tkG t L p = 4 := by unfold tkG; rw [if_neg cn, if_neg b1, if_neg b2, if_pos x1]
            refine ⟨by rw [w2 2 (by omega) (by omega) (by omega)]; exact u2, by rw [eE]; exact w3, by rw [eG]; exact x2, by rw [w2 5 (by omega) (by omega) (by omega)]; exact u5, ?_, fun q => by omega, fun q => by omega⟩
            unfold tkC
            rw [eG]
            exact x3
          · have eG : tkG t L p = 1 := by unfold tkG; rw [if_neg cn, if_neg b1, if_neg b2, if_neg (by rw [x1]; decide)]
            refine ⟨by rw [w2 2 (by omega) (by omega) (by omega)]; exact u2, by rw [eE]; exact w3, by rw [eG]; exact x2, by rw [w2 5 (by omega) (by omega) (by omega)]; exact u5, ?_, fun q => by omega, fun q => by omega⟩
            unfold tkC
            rw [eG, x3]
            exact u7
    · have cn : L ≤ p := by omega
      have eE : tkE t L p = p := by unfold tkE; rw [if_pos cn]
      have eG : tkG t L p = 0 := by unfold tkG; rw [if_pos cn]
      refine ⟨by rw [upm_k (by decide)]; exact u2, by rw [upm_k (by decide), eE]; exact u3, by rw [upm_s, eG]; rfl, by rw [upm_k (by decide)]; exact u5, ?_, fun q => by omega, fun q => by omega⟩
      unfold tkC
      rw [eG, upm_k (by decide)]
      exact u7
  have wqB : ∀ j, j ≤ L → rnK isBb t L j = rnK isBb t L k → ∀ V' : Mem, (∀ c, c ≠ 1 → V' c = V c) → V' 1 2 = V 1 2 → V' 1 3 = (j : Int) → Wf K (d + 2) mX9_advance 0 [some (vR 1)] [] V' (fun r V' => r = none ∧ (∀ c, c ≠ 1 → V' c = V c) ∧ AtT V' t L (rnK isBb t L k)) := by
    refine up_ind ?_ ?_
    · intro he V' g1 g2 g3
      have ee : rnK isBb t L L = L := rnK_st (by omega)
      rw [ee] at he
      refine sX9_advance_0 ⟨fun _ => fin V' g1 g2 (by rw [← he]; exact g3), fun c => absurd ?_ c⟩
      rw [g3, g2, hT.1]; exact Int.le_refl _
    · intro j hj ih he V' g1 g2 g3
      have hv : V' 2 j = t j := by rw [g1 2 (by decide)]; exact hT.2.2.2.2 j hj
      refine sX9_advance_0 ⟨fun c => absurd c (by rw [g3, g2, hT.1]; omega), fun _ => ?_⟩
      rw [g3, tn, hv]
      have go : isBb (t j) = true → Wf K (d + 2) mX9_advance 39 [some (vR 1)] [] V' (fun r V' => r = none ∧ (∀ c, c ≠ 1 → V' c = V c) ∧ AtT V' t L (rnK isBb t L k)) := fun b => by
        refine sX9_advance_39 ?_
        rw [g3, w32_s (i := j) (by omega)]
        exact ih (by rw [← he]; exact (rnK_go hj b).symm) _ (fun x q => by rw [upm_off x q]; exact g1 x q) (by rw [upm_k (by decide)]; exact g2) (upm_s _ _ _ _)
      refine ⟨⟨by omega, by omega⟩, fun b => go (show isBb (t j) = true from decide_eq_true (Or.inl b)), fun b => ⟨⟨by omega, by omega⟩, fun b2 => ?_, fun b2 => go (show isBb (t j) = true from decide_eq_true (Or.inr b2))⟩⟩
      rw [rnK_st (fun q => by
        have := of_decide_eq_true q.2
        omega)] at he
      exact fin V' g1 g2 (by rw [← he]; exact g3)
  refine sX9_advance ?_
  by_cases c : k < L
  · have hv : V 2 k = t k := hT.2.2.2.2 k c
    refine ⟨fun q => absurd q (by rw [hT.1, hT.2.1]; omega), fun _ => ?_⟩
    rw [hT.2.1, tn, hv]
    have go : isBb (t k) = true → Wf K (d + 2) mX9_advance 39 [some (vR 1)] [] V (fun r V' => r = none ∧ (∀ c, c ≠ 1 → V' c = V c) ∧ AtT V' t L (rnK isBb t L k)) := fun b => by
      refine sX9_advance_39 ?_
      rw [hT.2.1, w32_s (i := k) (by omega)]
      exact wqB (k + 1) (by omega) (rnK_go c b).symm _ (fun x q => by rw [upm_off x q]) (by rw [upm_k (by decide)]) (upm_s _ _ _ _)
    refine ⟨⟨by omega, by omega⟩, fun b => go (show isBb (t k) = true from decide_eq_true (Or.inl b)), fun b => ⟨⟨by omega, by omega⟩, fun b2 => ?_, fun b2 => go (show isBb (t k) = true from decide_eq_true (Or.inr b2))⟩⟩
    have es : rnK isBb t L k = k := rnK_st (fun q => by
      have := of_decide_eq_true q.2
      omega)
    exact fin V (fun _ _ => rfl) rfl (by rw [es]; exact hT.2.1)
  · refine ⟨fun _ => ?_, fun q => absurd (by rw [hT.1, hT.2.1]; omega) q⟩
    have es : rnK isBb t L k = k := rnK_st (fun q => c q.1)
    exact fin V (fun _ _ => rfl) rfl (by rw [es]; exact hT.2.1)
end TKD
