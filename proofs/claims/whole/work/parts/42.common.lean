/-! ===== common chains of two rows: both sides ===== -/
def lcC (A : Nat → Int) (b : Int) (old : Nat → Nat) : Nat → Nat
  | 0 => 0
  | i + 1 => if A i = b then old i + 1 else max (old (i + 1)) (lcC A b old i)
/-- c places of the second row from f on, the first i of the first row -/
def lcS (A B : Nat → Int) (f : Nat) : Nat → Nat → Nat
  | 0 => fun _ => 0
  | c + 1 => lcC A (B (f + c)) (lcS A B f c)
theorem lcS_0 {A B : Nat → Int} {f : Nat} : ∀ c, lcS A B f c 0 = 0
  | 0 => rfl
  | _ + 1 => rfl
theorem lcC_le {A : Nat → Int} {b : Int} {old : Nat → Nat} {c : Nat} (h : ∀ i, old i ≤ c) : ∀ i, lcC A b old i ≤ c + 1
  | 0 => Nat.zero_le _
  | i + 1 => by
    have ih := lcC_le (A := A) (b := b) h i
    have h1 := h i
    have h2 := h (i + 1)
    unfold lcC
    split <;> omega
theorem lcS_le {A B : Nat → Int} {f : Nat} : ∀ c i, lcS A B f c i ≤ c
  | 0, _ => Nat.le_refl 0
  | c + 1, i => lcC_le (fun i => lcS_le c i) i
theorem lcC_t {A : Nat → Int} {b : Int} {old : Nat → Nat} {i : Nat} (h : A i = b) : lcC A b old (i + 1) = old i + 1 := if_pos h
theorem lcC_f {A : Nat → Int} {b : Int} {old : Nat → Nat} {i : Nat} (h : ¬ A i = b) : lcC A b old (i + 1) = max (old (i + 1)) (lcC A b old i) := if_neg h
section CCM
variable {K : KK} {d : Nat} {V : Mem} {P : Nat → Int × Int} {n R : Nat}
theorem c_fillCommonFrom {m1 m2 f : Nat} {A B : Nat → Int} (hm1 : V 151 4 = m1) (h120 : m1 ≤ 20) (hm2 : V 156 2 = m2) (h220 : m2 ≤ 20) (hf : f ≤ m2) (hA : ∀ i, i < m1 → V 152 i = A i) (hB : ∀ i, i < m2 → V 147 i = B i) : Mv K (d + 1) mX10_fillCommonFrom [vR 156, vR 151, vR 146, vI (f : Int)] V (fun V' => (∀ c, c ≠ 179 → c ≠ 158 + f → V' c = V c) ∧ ∀ j, f ≤ j → j ≤ m2 → V' (158 + f) j = ((lcS A B f (j - f) m1 : Nat) : Int)) := by
  refine sX10_fillCommonFrom 151 146 f is151 is146 ⟨⟨by omega, by omega⟩, ?_⟩
  rw [tn, Nat.one_mul]
  have hsh : SH[158 + f]? = some (14, 21, []) := by
    have := arr157 (k := (f : Int)) ⟨by omega, by omega⟩
    rw [tn, Nat.one_mul] at this
    exact this
  have wqC : ∀ p, p ≤ m2 → f ≤ p → ∀ V' : Mem, (∀ c, c ≠ 179 → c ≠ 158 + f → V' c = V c) → (∀ j, f ≤ j → j ≤ p → V' (158 + f) j = ((lcS A B f (j - f) m1 : Nat) : Int)) → (∀ i, i ≤ m1 → V' 179 i = ((lcS A B f (p - f) i : Nat) : Int)) → Wf K (d + 1) mX10_fillCommonFrom 43 [some (vR 156), some (vR 151), some (vR 146), none, some (vR (158 + f)), some (vI (p : Int)), none, none, none] [] V' (fun r V' => r = none ∧ (∀ c, c ≠ 179 → c ≠ 158 + f → V' c = V c) ∧ ∀ j, f ≤ j → j ≤ m2 → V' (158 + f) j = ((lcS A B f (j - f) m1 : Nat) : Int)) := by
    refine up_ind ?_ ?_
    · intro _ V' g1 g2 g3
      exact sX10_fillCommonFrom_43 151 146 _ _ is151 is146 hsh ⟨fun _ => ⟨rfl, g1, g2⟩, fun c => absurd (by rw [g1 156 (by omega) (by omega), hm2]; exact Int.le_refl _) c⟩
    · intro p hp ih hl V' g1 g2 g3
      refine sX10_fillCommonFrom_43 151 146 _ _ is151 is146 hsh ⟨fun c => absurd c (by rw [g1 156 (by omega) (by omega), hm2]; omega), fun _ => ?_⟩
      have el : f + (p - f) = p := by omega
      have es : p + 1 - f = (p - f) + 1 := by omega
      have en : ∀ i, lcS A B f (p + 1 - f) i = lcC A (B p) (lcS A B f (p - f)) i := fun i => by
        rw [es]; show lcC A (B (f + (p - f))) _ i = _; rw [el]
      have ol := fun i => lcS_le (A := A) (B := B) (f := f) (p - f) i
      have o0 := lcS_0 (A := A) (B := B) (f := f) (p - f)
      have nl := fun i => lcC_le (A := A) (b := B p) ol i
      generalize lcS A B f (p - f) = old at *
      have wqD : ∀ i, i ≤ m1 + 1 → 1 ≤ i → ∀ V2 : Mem, (∀ c, c ≠ 179 → V2 c = V' c) → (∀ k, k < i → V2 179 k = ((lcC A (B p) old k : Nat) : Int)) → (∀ k, i ≤ k → k ≤ m1 → V2 179 k = ((old k : Nat) : Int)) → Wf K (d + 1) mX10_fillCommonFrom 58 [some (vR 156), some (vR 151), some (vR 146), none, some (vR (158 + f)), some (vI (p : Int)), some (vI ((old (i - 1) : Nat) : Int)), some (vI (i : Int)), none] [] V2 (fun r V' => r = none ∧ (∀ c, c ≠ 179 → c ≠ 158 + f → V' c = V c) ∧ ∀ j, f ≤ j → j ≤ m2 → V' (158 + f) j = ((lcS A B f (j - f) m1 : Nat) : Int)) := by
        refine up_ind ?_ ?_
        · intro _ V2 k1 k2 k3
          refine sX10_fillCommonFrom_58 151 146 _ _ _ _ is151 is146 hsh ?_
          rw [k1 151 (by omega), g1 151 (by omega) (by omega), hm1, w32_s (i := p) (by omega)]
          refine ⟨fun _ => ⟨⟨by omega, by omega⟩, ⟨by omega, by omega⟩, ?_⟩, fun c => absurd (by omega) c⟩
          rw [tn, tn, k2 m1 (by omega)]
          refine ih (by omega) _ (fun c q1 q2 => by rw [upm_off c q2, k1 c q1]; exact g1 c q1 q2) (fun j h1 h2 => ?_) (fun i hi => ?_)
          · by_cases q : j = p + 1
            · rw [q, upm_s, en]
            · rw [upm_k q, k1 (158 + f) (by omega)]; exact g2 j h1 (by omega)
          · rw [upm_a (by omega), en]; exact k2 i (by omega)
        · intro i hi ih2 h1 V2 k1 k2 k3
          obtain ⟨u, rfl⟩ : ∃ u, i = u + 1 := ⟨i - 1, by omega⟩
          have hu1 := ol u
          have hu2 := ol (u + 1)
          have hu3 := nl u
          refine sX10_fillCommonFrom_58 151 146 _ _ _ _ is151 is146 hsh ?_
          rw [k1 151 (by omega), g1 151 (by omega) (by omega), hm1, w32_s (i := p) (by omega), w32_s (i := u + 1) (by omega), w32_p (i := u) (by omega)]
          simp only [tn]
          rw [k3 (u + 1) (Nat.le_refl _) (by omega), k2 u (by omega), show (151 + 1 : Nat) = 152 from rfl, show (146 + 1 : Nat) = 147 from rfl, k1 152 (by omega), k1 147 (by omega), g1 152 (by omega) (by omega), g1 147 (by omega) (by omega), hA u (by omega), hB p hp]
          refine ⟨fun c => by omega, fun _ => ⟨fun c => by omega, fun _ => ⟨⟨by omega, by omega⟩, ⟨by omega, by omega⟩, ⟨by omega, by omega⟩, fun c => ⟨⟨by omega, by omega⟩, ⟨by omega, by omega⟩, ?_⟩, fun c => ⟨⟨by omega, by omega⟩, ?_⟩⟩⟩⟩
          · refine ih2 (by omega) _ (fun c hc => (upm_off c hc).trans (k1 c hc)) (fun k hk => ?_) (fun k h2 h3 => by rw [upm_k (by omega)]; exact k3 k (by omega) h3)
            by_cases q : k = u + 1
            · rw [q, upm_s, lcC_f c]; omega
            · rw [upm_k q]; exact k2 k (by omega)
          · rw [show u + 1 - 1 = u by omega, w32_s (i := old u) (by omega)]
            refine ih2 (by omega) _ (fun c hc => (upm_off c hc).trans (k1 c hc)) (fun k hk => ?_) (fun k h2 h3 => by rw [upm_k (by omega)]; exact k3 k (by omega) h3)
            by_cases q : k = u + 1
            · rw [q, upm_s, lcC_t c]
            · rw [upm_k q]; exact k2 k (by omega)
      have := wqD 1 (by omega) (Nat.le_refl _) V' (fun _ _ => rfl) (fun k hk => by
        rw [show k = 0 by omega, g3 0 (by omega), o0]; rfl) (fun k h1 h2 => g3 k h2)
      rw [show (1 : Nat) - 1 = 0 from rfl, o0] at this
      exact this
  have wqA : ∀ i, i ≤ 21 → ∀ V' : Mem, (∀ c, c ≠ 179 → V' c = V c) → (∀ j, j < i → V' 179 j = 0) → Wf K (d + 1) mX10_fillCommonFrom 11 [some (vR 156), some (vR 151), some (vR 146), some (vI (f : Int)), some (vR (158 + f)), some (vI (i : Int)), none, none, none] [] V' (fun r V' => r = none ∧ (∀ c, c ≠ 179 → c ≠ 158 + f → V' c = V c) ∧ ∀ j, f ≤ j → j ≤ m2 → V' (158 + f) j = ((lcS A B f (j - f) m1 : Nat) : Int)) := by
    refine up_ind ?_ ?_
    · intro V' g1 g2
      refine sX10_fillCommonFrom_11 151 146 _ _ _ is151 is146 hsh ⟨fun _ => ⟨⟨by omega, by omega⟩, ?_⟩, fun c => absurd (by decide) c⟩
      rw [tn]
      refine wqC f hf (Nat.le_refl _) _ (fun c q1 q2 => by rw [upm_off c q2]; exact g1 c q1) (fun j h1 h2 => ?_) (fun i hi => ?_)
      · rw [show j = f by omega, upm_s, Nat.sub_self]; rfl
      · rw [upm_a (by omega), Nat.sub_self]; exact g2 i (by omega)
    · intro i hi ih V' g1 g2
      refine sX10_fillCommonFrom_11 151 146 _ _ _ is151 is146 hsh ⟨fun c => by omega, fun _ => ⟨⟨by omega, by omega⟩, ?_⟩⟩
      rw [w32_s (by omega), tn]
      refine ih _ (fun c q1 => by rw [upm_off c q1]; exact g1 c q1) (fun j hj => ?_)
      by_cases q : j = i
      · rw [q, upm_s]
      · rw [upm_k q]; exact g2 j (by omega)
  exact wqA 0 (by omega) V (fun _ _ => rfl) (fun j hj => absurd hj (Nat.not_lt_zero j))
theorem c_fillCommon {m1 m2 : Nat} {A B : Nat → Int} (hm1 : V 151 4 = m1) (h120 : m1 ≤ 20) (hm2 : V 146 4 = m2) (h220 : m2 ≤ 20) (hA : ∀ i, i < m1 → V 152 i = A i) (hB : ∀ i, i < m2 → V 147 i = B i) : Mv K (d + 2) mX10_fillCommon [vR 156, vR 151, vR 146] V (fun V' => (∀ c, (c < 156 ∨ 179 < c) → V' c = V c) ∧ V' 156 2 = m2 ∧ ∀ i j, i ≤ j → j ≤ m2 → V' (158 + i) j = ((lcS A B i (j - i) m1 : Nat) : Int)) := by
  refine sX10_fillCommon 151 146 is151 is146 ?_
  rw [hm2]
  have wqA : ∀ i, i ≤ m2 + 1 → ∀ V' : Mem, (∀ c, (c < 156 ∨ 179 < c) → V' c = V c) → V' 156 2 = (m2 : Int) → (∀ i' j, i' < i → i' ≤ j → j ≤ m2 → V' (158 + i') j = ((lcS A B i' (j - i') m1 : Nat) : Int)) → Wf K (d + 2) mX10_fillCommon 10 [some (vR 156), some (vR 151), some (vR 146), some (vI (i : Int))] [] V' (fun r V' => r = none ∧ (∀ c, (c < 156 ∨ 179 < c) → V' c = V c) ∧ V' 156 2 = m2 ∧ ∀ i j, i ≤ j → j ≤ m2 → V' (158 + i) j = ((lcS A B i (j - i) m1 : Nat) : Int)) := by
    refine up_ind ?_ ?_
    · intro V' g1 g2 g3
      exact sX10_fillCommon_10 151 146 _ is151 is146 ⟨fun _ => ⟨rfl, g1, g2, fun i j h1 h2 => g3 i j (by omega) h1 h2⟩, fun c => absurd (by rw [g2]; omega) c⟩
    · intro i hi ih V' g1 g2 g3
      refine sX10_fillCommon_10 151 146 _ is151 is146 ⟨fun c => absurd c (by rw [g2]; omega), fun _ => ⟨fun c => by omega, fun _ => ?_⟩⟩
      refine (c_fillCommonFrom (d := d) (V := V') (m1 := m1) (m2 := m2) (A := A) (B := B) (by rw [g1 151 (by omega)]; exact hm1) h120 g2 h220 (by omega) (fun k hk => by rw [g1 152 (by omega)]; exact hA k hk) (fun k hk => by rw [g1 147 (by omega)]; exact hB k hk)).use (fun V2 ⟨k1, k2⟩ => ?_)
      rw [w32_s (by omega)]
      refine ih V2 (fun c q => by rw [k1 c (by omega) (by omega)]; exact g1 c q) (by rw [k1 156 (by omega) (by omega)]; exact g2) (fun i' j h1 h2 h3 => ?_)
      by_cases q : i' = i
      · rw [q]; exact k2 j (by omega) h3
      · rw [k1 (158 + i') (by omega) (by omega)]; exact g3 i' j (by omega) h2 h3
  exact wqA 0 (by omega) _ (fun c q => upm_off c (by omega)) (upm_s _ _ _ _) (fun i' j h => absurd h (Nat.not_lt_zero i'))
/-- the class's tables of what rows i and o have in common -/
theorem c_loadCommon {T : Mem → Prop} (hI : Icore P n R V) {i o m1 m2 : Nat} (hi : i < R) (ho : o < R) (hm1 : V 381 i = m1) (hm2 : V 381 o = m2) (ht : ∀ V4, FrX V V4 → V4 156 2 = (m2 : Int) → (∀ a b, a ≤ b → b ≤ m2 → V4 (158 + a) b = ((lcS (wR P n V i) (wR P n V o) a (b - a) m1 : Nat) : Int)) → T V4) : Mf K (d + 2) mX1_load [vR 151, vR (49 + 2 * i), vR 135] V (fun r V2 => r = none ∧ Mf K (d + 2) mX1_load [vR 146, vR (49 + 2 * o), vR 135] V2 (fun r V3 => r = none ∧ Mf K (d + 2) mX10_fillCommon [vR 156, vR 151, vR 146] V3 (fun r V4 => r = none ∧ T V4))) := by
  obtain ⟨m1', -, e1, -, l1, -⟩ := hI.row hi
  obtain ⟨m2', -, e2, -, l2, -⟩ := hI.row ho
  have : m1' = m1 := by omega
  subst this
  have : m2' = m2 := by omega
  subst this
  refine (c_loadR (d := d) (Or.inr rfl) hI hi hm1).use (fun V1 ⟨k1, k2, k3, k4, k5⟩ => ?_)
  have hI1 := hI.frX k1
  have e375 : V1 375 = V 375 := k1 375 (by omega)
  have e381 : V1 381 = V 381 := k1 381 (by omega)
  refine (c_loadR (d := d) (V := V1) (m := m2') (Or.inl rfl) hI1 ho (by rw [e381]; exact hm2)).use (fun V2 ⟨g1, g2, g3, g4, g5⟩ => ?_)
  rw [wR_fr e375 e381] at g5
  refine (c_fillCommon (d := d) (V := V2) (m1 := m1') (m2 := m2') (A := wR P n V i) (B := wR P n V o) (by rw [g2 151 (by omega) (by omega) (by omega)]; exact k3) l1 g3 l2 (fun k hk => by rw [g2 152 (by omega) (by omega) (by omega)]; exact k5 k hk) g5).use (fun V3 ⟨j1, j2, j3⟩ => ht V3 (fun c hc => ?_) j2 j3)
  rw [j1 c (by omega), g1 c hc, k1 c hc]
theorem x_common (hI : Icore P n R V) (r o f t : Int) : Mi K (d + 4) mX11_common [vR 0, vI r, vI o, vI f, vI t] V (fun z V' => FrX V V' ∧ z = if rowC V r ∧ winC V o f t then ((lcS (wR P n V r.toNat) (wR P n V o.toNat) f.toNat (t.toNat - f.toNat) (V 381 r.toNat).toNat : Nat) : Int) else -1) := by
  obtain ⟨hx, hr0, hR, hC, hlx, hlm, hw⟩ := id hI
  have no : ¬ (rowC V r ∧ winC V o f t) → ∃ z, some (vI (-1)) = some (vI z) ∧ FrX V V ∧ z = if rowC V r ∧ winC V o f t then ((lcS (wR P n V r.toNat) (wR P n V o.toNat) f.toNat (t.toNat - f.toNat) (V 381 r.toNat).toNat : Nat) : Int) else -1 := fun c => ⟨_, rfl, FrX.rf, by rw [if_neg c]⟩
  refine sX11_common r o f t ?_
  rw [hx]
  refine ⟨fun h => ?_, fun h => ⟨fun h1 => ?_, fun h1 => ⟨⟨by omega, by omega⟩, fun h2 => no (fun q => by have := q.2.1; omega), fun h2 => ⟨fun h3 => no (fun q => by have := q.2.2.1; omega), fun h3 => ⟨⟨by omega, by omega⟩, ?_⟩⟩⟩⟩⟩
  · exact ⟨fun _ => no (fun q => by have := q.1.1; omega), fun _ => ⟨fun _ => no (fun q => by have := q.1.1; omega), fun _ => ⟨⟨by omega, by omega⟩, no (fun q => by have := q.1.1; omega)⟩⟩⟩
  · exact ⟨fun _ => no (fun q => by have := q.1.2; omega), fun _ => ⟨fun _ => no (fun q => by have := q.1.2; omega), fun _ => ⟨⟨by omega, by omega⟩, no (fun q => by have := q.1.2; omega)⟩⟩⟩
  · obtain ⟨i, rfl⟩ : ∃ i : Nat, r = i := ⟨r.toNat, by omega⟩
    obtain ⟨j, rfl⟩ : ∃ j : Nat, o = j := ⟨o.toNat, by omega⟩
    have hi : i < R := by omega
    have hj : j < R := by omega
    obtain ⟨m1, -, e1, -, l1, -⟩ := hI.row hi
    obtain ⟨m2, a2, e2, -, l2, -⟩ := hI.row hj
    have hwin : winC V j f t ↔ (0 ≤ f ∧ f ≤ t ∧ t ≤ m2) := by
      unfold winC
      rw [tn, e2]
      omega
    simp only [tn] at no ⊢
    rw [a2]
    refine ⟨fun h5 => no (fun q => by have := hwin.mp q.2; omega), fun h5 => ⟨fun h6 => no (fun q => by have := hwin.mp q.2; omega), fun h6 => ⟨fun h7 => no (fun q => by have := hwin.mp q.2; omega), fun h7 => ?_⟩⟩⟩
    refine c_loadCommon (d := d) hI hi hj e1 e2 (fun V4 v1 v2 v3 => ?_)
    obtain ⟨lo, rfl⟩ : ∃ lo : Nat, f = lo := ⟨f.toNat, by omega⟩
    obtain ⟨hi', rfl⟩ : ∃ hi' : Nat, t = hi' := ⟨t.toNat, by omega⟩
    refine (c_lengthOf (d := d + 3) (V := V4) (n := m2) v2 l2 (show lo ≤ hi' by omega) (by omega)).use ⟨_, rfl, v1, ?_⟩
    rw [if_pos ⟨⟨by omega, by omega⟩, hwin.mpr ⟨by omega, by omega, by omega⟩⟩, v3 lo hi' (by omega) (by omega), tn, tn, e1, tn]
theorem x_meets (hI : Icore P n R V) (r o p : Int) : Mi K (d + 5) mX11_meets [vR 0, vI r, vI o, vI p] V (fun z V' => FrX V V' ∧ z = if rowC V r ∧ plC V o p then sfn (fun a b => ((lcS (wR P n V r.toNat) (wR P n V o.toNat) a (b - a) (V 381 r.toNat).toNat : Nat) : Int)) (V 381 o.toNat).toNat p.toNat else -1) := by
  obtain ⟨hx, hr0, hR, hC, hlx, hlm, hw⟩ := id hI
  have no : ¬ (rowC V r ∧ plC V o p) → ∃ z, some (vI (-1)) = some (vI z) ∧ FrX V V ∧ z = if rowC V r ∧ plC V o p then sfn (fun a b => ((lcS (wR P n V r.toNat) (wR P n V o.toNat) a (b - a) (V 381 r.toNat).toNat : Nat) : Int)) (V 381 o.toNat).toNat p.toNat else -1 := fun c => ⟨_, rfl, FrX.rf, by rw [if_neg c]⟩
  refine sX11_meets r o p ?_
  rw [hx]
  refine ⟨fun h => ?_, fun h => ⟨fun h1 => ?_, fun h1 => ⟨⟨by omega, by omega⟩, fun h2 => no (fun q => by have := q.2.1; omega), fun h2 => ⟨fun h3 => no (fun q => by have := q.2.2.1; omega), fun h3 => ⟨⟨by omega, by omega⟩, ?_⟩⟩⟩⟩⟩
  · exact ⟨fun _ => no (fun q => by have := q.1.1; omega), fun _ => ⟨fun _ => no (fun q => by have := q.1.1; omega), fun _ => ⟨⟨by omega, by omega⟩, no (fun q => by have := q.1.1; omega)⟩⟩⟩
  · exact ⟨fun _ => no (fun q => by have := q.1.2; omega), fun _ => ⟨fun _ => no (fun q => by have := q.1.2; omega), fun _ => ⟨⟨by omega, by omega⟩, no (fun q => by have := q.1.2; omega)⟩⟩⟩
  · obtain ⟨i, rfl⟩ : ∃ i : Nat, r = i := ⟨r.toNat, by omega⟩
    obtain ⟨j, rfl⟩ : ∃ j : Nat, o = j := ⟨o.toNat, by omega⟩
    have hi : i < R := by omega
    have hj : j < R := by omega
    obtain ⟨m1, -, e1, -, l1, -⟩ := hI.row hi
    obtain ⟨m2, a2, e2, -, l2, -⟩ := hI.row hj
    have hrow : IsRow (49 + 2 * j) := by
      have := obj44 (k := (j : Int)) ⟨by omega, by omega⟩
      rw [tn] at this
      exact this
    simp only [tn] at no ⊢
    refine (c_hasPlace (d := d + 4) hrow p).use ?_
    rw [a2]
    by_cases hc : 0 ≤ p ∧ p < (m2 : Int) ∧ p < 20
    · rw [if_pos hc]
      refine ⟨fun _ => c_loadCommon (d := d + 1) hI hi hj e1 e2 (fun V4 v1 v2 v3 => ?_), fun c => absurd c (by decide)⟩
      obtain ⟨q, rfl⟩ : ∃ q : Nat, p = q := ⟨p.toNat, by omega⟩
      refine (c_strandFrom (d := d + 2) (V := V4) v2 l2 (show q ≤ m2 by omega) (fun a b h5 h6 => ?_)).use ⟨_, rfl, v1, ?_⟩
      · rw [v3 a b h5 h6]
        have := lcS_le (A := wR P n V i) (B := wR P n V j) (f := a) (b - a) m1
        omega
      · rw [if_pos ⟨⟨by omega, by omega⟩, by omega, by omega, by omega, by rw [tn, e2]; omega⟩, tn, e1, e2, tn, tn]
        exact sfn_congr (fun a b h5 h6 => v3 a b h5 h6)
    · rw [if_neg hc]
      refine ⟨fun c => absurd rfl c, fun _ => no (fun q => hc ?_)⟩
      have q1 := q.2.2.2
      rw [tn, e2] at q1
      omega
theorem m_findsCommon {V0 : Mem} (hI : Icore P n R V) (hV : FrM V V0) {i o m1 m2 : Nat} (hi : i < R) (ho : o < R) (hm1 : V 381 i = m1) (hm2 : V 381 o = m2) : Mv K (d + 4) mX12_findsCommon [vR 369, vI (i : Int), vI (o : Int)] V0 (fun V4 => FrM V V4 ∧ V4 369 23 = m2 ∧ ∀ a b, a ≤ b → b ≤ m2 → V4 384 (21 * a + b) = ((lcS (wR P n V i) (wR P n V o) a (b - a) m1 : Nat) : Int)) := by
  obtain ⟨m1', -, e1, -, l1, -⟩ := hI.row hi
  obtain ⟨m2', -, e2, -, l2, -⟩ := hI.row ho
  have : m1' = m1 := by omega
  subst this
  have : m2' = m2 := by omega
  subst this
  refine sX12_findsCommon _ _ ((m_laysR (d := d) hI hV hi hm1).use (fun V1 ⟨k1, k2, k3, k4, k5⟩ => ?_))
  rw [k4]
  have wqC : ∀ V2 : Mem, FrM V V2 → V2 369 23 = (m2' : Int) → (∀ p, p < m2' → V2 383 p = wR P n V o p) → (∀ p, p < m1' → V2 392 p = wR P n V i p) → ∀ f, f ≤ m2' + 1 → ∀ V' : Mem, (∀ c, c ≠ 384 → c ≠ 393 → V' c = V2 c) → (∀ a b, a < f → a ≤ b → b ≤ m2' → V' 384 (21 * a + b) = ((lcS (wR P n V i) (wR P n V o) a (b - a) m1' : Nat) : Int)) → Wf K (d + 4) mX12_findsCommon 47 [some (vR 369), none, none, some (vI (m1' : Int)), some (vI (f : Int)), none, none, none, none, none] [] V' (fun r V4 => r = none ∧ FrM V V4 ∧ V4 369 23 = m2' ∧ ∀ a b, a ≤ b → b ≤ m2' → V4 384 (21 * a + b) = ((lcS (wR P n V i) (wR P n V o) a (b - a) m1' : Nat) : Int)) := by
    intro V2 f2 n2 w2 w1
    generalize wR P n V i = A at *
    generalize wR P n V o = B at *
    refine up_ind ?_ ?_
    · intro V' g1 g2
      exact sX12_findsCommon_47 _ _ ⟨fun _ => ⟨rfl, f2.tr ⟨fun c q1 q2 => g1 c (by omega) (by omega), fun j _ _ _ _ => by rw [g1 369 (by omega) (by omega)]⟩, by rw [g1 369 (by omega) (by omega)]; exact n2, fun a b h1 h2 => g2 a b (by omega) h1 h2⟩, fun c => absurd (by rw [g1 369 (by omega) (by omega), n2]; omega) c⟩
    · intro f hf ih V' g1 g2
      refine sX12_findsCommon_47 _ _ ⟨fun c => absurd c (by rw [g1 369 (by omega) (by omega), n2]; omega), fun _ => ?_⟩
      have wqD : ∀ p, p ≤ m2' → f ≤ p → ∀ V3 : Mem, (∀ c, c ≠ 384 → c ≠ 393 → V3 c = V2 c) → (∀ a b, a < f → a ≤ b → b ≤ m2' → V3 384 (21 * a + b) = ((lcS A B a (b - a) m1' : Nat) : Int)) → (∀ j, f ≤ j → j ≤ p → V3 384 (21 * f + j) = ((lcS A B f (j - f) m1' : Nat) : Int)) → (∀ u, u ≤ m1' → V3 393 u = ((lcS A B f (p - f) u : Nat) : Int)) → Wf K (d + 4) mX12_findsCommon 99 [some (vR 369), none, none, some (vI (m1' : Int)), some (vI (f : Int)), some (vI ((p + 1 : Nat) : Int)), none, none, none, none] [] V3 (fun r V4 => r = none ∧ FrM V V4 ∧ V4 369 23 = m2' ∧ ∀ a b, a ≤ b → b ≤ m2' → V4 384 (21 * a + b) = ((lcS A B a (b - a) m1' : Nat) : Int)) := by
        refine up_ind ?_ ?_
        · intro _ V3 j1 j2 j3 j4
          refine sX12_findsCommon_99 _ _ _ ⟨fun _ => ?_, fun c => absurd (by rw [j1 369 (by omega) (by omega), n2]; omega) c⟩
          rw [w32_s (by omega)]
          refine ih V3 j1 (fun a b h1 h2 h3 => ?_)
          by_cases q : a = f
          · rw [q]; exact j3 b (by omega) h3
          · exact j2 a b (by omega) h2 h3
        · intro p hp ih2 hl V3 j1 j2 j3 j4
          refine sX12_findsCommon_99 _ _ _ ⟨fun c => absurd c (by rw [j1 369 (by omega) (by omega), n2]; omega), fun _ => ?_⟩
          have el : f + (p - f) = p := by omega
          have es : p + 1 - f = (p - f) + 1 := by omega
          have en : ∀ i, lcS A B f (p + 1 - f) i = lcC A (B p) (lcS A B f (p - f)) i := fun i => by
            rw [es]; show lcC A (B (f + (p - f))) _ i = _; rw [el]
          have ol := fun i => lcS_le (A := A) (B := B) (f := f) (p - f) i
          have o0 := lcS_0 (A := A) (B := B) (f := f) (p - f)
          have nl := fun i => lcC_le (A := A) (b := B p) ol i
          generalize lcS A B f (p - f) = old at *
          have wqE : ∀ x, x ≤ m1' + 1 → 1 ≤ x → ∀ V4 : Mem, (∀ c, c ≠ 393 → V4 c = V3 c) → (∀ k, k < x → V4 393 k = ((lcC A (B p) old k : Nat) : Int)) → (∀ k, x ≤ k → k ≤ m1' → V4 393 k = ((old k : Nat) : Int)) → Wf K (d + 4) mX12_findsCommon 114 [some (vR 369), none, none, some (vI (m1' : Int)), some (vI (f : Int)), some (vI ((p + 1 : Nat) : Int)), some (vI ((old (x - 1) : Nat) : Int)), some (vI (x : Int)), none, none] [] V4 (fun r V4 => r = none ∧ FrM V V4 ∧ V4 369 23 = m2' ∧ ∀ a b, a ≤ b → b ≤ m2' → V4 384 (21 * a + b) = ((lcS A B a (b - a) m1' : Nat) : Int)) := by
            refine up_ind ?_ ?_
            · intro _ V4 q1 q2 q3
              refine sX12_findsCommon_114 _ _ _ _ _ ⟨fun _ => ⟨⟨by omega, by omega⟩, ?_⟩, fun c => absurd (by omega) c⟩
              rw [ix21 (show f ≤ 20 by omega) (show p + 1 ≤ 20 by omega), tn, tn, q2 m1' (by omega), w32_s (i := p + 1) (by omega)]
              refine ⟨⟨by omega, by omega⟩, ih2 (by omega) _ (fun c w1 w2 => by rw [upm_off c w1, q1 c w2]; exact j1 c w1 w2) (fun a b h1 h2 h3 => by rw [upm_k (by omega), q1 384 (by omega)]; exact j2 a b h1 h2 h3) (fun j h1 h2 => ?_) (fun u hu => ?_)⟩
              · by_cases w : j = p + 1
                · rw [w, upm_s, en]
                · rw [upm_k (by omega), q1 384 (by omega)]; exact j3 j h1 (by omega)
              · rw [upm_a (by omega), en]; exact q2 u (by omega)
            · intro x hx ih3 h1 V4 q1 q2 q3
              obtain ⟨u, rfl⟩ : ∃ u, x = u + 1 := ⟨x - 1, by omega⟩
              have hu1 := ol u
              have hu2 := ol (u + 1)
              have hu3 := nl u
              have st : ∀ z : Int, z = ((lcC A (B p) old (u + 1) : Nat) : Int) → Wf K (d + 4) mX12_findsCommon 185 [some (vR 369), none, none, some (vI (m1' : Int)), some (vI (f : Int)), some (vI ((p + 1 : Nat) : Int)), none, some (vI ((u + 1 : Nat) : Int)), some (vI ((old (u + 1) : Nat) : Int)), none] [vI z] V4 (fun r V4 => r = none ∧ FrM V V4 ∧ V4 369 23 = m2' ∧ ∀ a b, a ≤ b → b ≤ m2' → V4 384 (21 * a + b) = ((lcS A B a (b - a) m1' : Nat) : Int)) := by
                intro z hz
                refine sX12_findsCommon_185 _ _ _ _ _ _ ⟨⟨by omega, by omega⟩, ?_⟩
                rw [tn, w32_s (i := u + 1) (by omega)]
                refine ih3 (by omega) _ (fun c hc => (upm_off c hc).trans (q1 c hc)) (fun k hk => ?_) (fun k h2 h3 => by rw [upm_k (by omega)]; exact q3 k (by omega) h3)
                by_cases w : k = u + 1
                · rw [w, upm_s]; exact hz
                · rw [upm_k w]; exact q2 k (by omega)
              refine sX12_findsCommon_114 _ _ _ _ _ ⟨fun c => by omega, fun _ => ?_⟩
              rw [w32_p (i := u) (by omega), w32_p (i := p) (by omega), tn, tn, tn, q3 (u + 1) (Nat.le_refl _) (by omega), q2 u (by omega), q1 392 (by omega), q1 383 (by omega), j1 392 (by omega) (by omega), j1 383 (by omega) (by omega), w1 u (by omega), w2 p hp]
              refine ⟨⟨by omega, by omega⟩, ⟨by omega, by omega⟩, ⟨by omega, by omega⟩, fun c => ⟨⟨by omega, by omega⟩, fun c2 => ⟨⟨by omega, by omega⟩, st _ ?_⟩, fun c2 => st _ ?_⟩, fun c => st _ ?_⟩
              · rw [lcC_f c]; omega
              · rw [lcC_f c]; omega
              · rw [lcC_t c, show u + 1 - 1 = u by omega, w32_s (i := old u) (by omega)]
          have := wqE 1 (by omega) (Nat.le_refl _) V3 (fun _ _ => rfl) (fun k hk => by
            rw [show k = 0 by omega, j4 0 (by omega), o0]; rfl) (fun k h1 h2 => j4 k h2)
          rw [show (1 : Nat) - 1 = 0 from rfl, o0] at this
          exact this
      have wqB : ∀ u, u ≤ m1' + 1 → ∀ V3 : Mem, (∀ c, c ≠ 393 → V3 c = V' c) → (∀ k, k < u → V3 393 k = 0) → Wf K (d + 4) mX12_findsCommon 59 [some (vR 369), none, none, some (vI (m1' : Int)), some (vI (f : Int)), some (vI (u : Int)), none, none, none, none] [] V3 (fun r V4 => r = none ∧ FrM V V4 ∧ V4 369 23 = m2' ∧ ∀ a b, a ≤ b → b ≤ m2' → V4 384 (21 * a + b) = ((lcS A B a (b - a) m1' : Nat) : Int)) := by
        refine up_ind ?_ ?_
        · intro V3 j1 j2
          refine sX12_findsCommon_59 _ _ _ ⟨fun _ => ?_, fun c => absurd (by omega) c⟩
          rw [ix21 (show f ≤ 20 by omega) (show f ≤ 20 by omega), tn, w32_s (i := f) (by omega)]
          refine ⟨⟨by omega, by omega⟩, wqD f (by omega) (Nat.le_refl _) _ (fun c w1 w2 => by rw [upm_off c w1, j1 c w2]; exact g1 c w1 w2) (fun a b h1 h2 h3 => by rw [upm_k (by omega), j1 384 (by omega)]; exact g2 a b h1 h2 h3) (fun j h1 h2 => ?_) (fun u hu => ?_)⟩
          · rw [show j = f by omega, upm_s, Nat.sub_self]; rfl
          · rw [upm_a (by omega), Nat.sub_self]; exact j2 u (by omega)
        · intro u hu ih3 V3 j1 j2
          refine sX12_findsCommon_59 _ _ _ ⟨fun c => by omega, fun _ => ⟨⟨by omega, by omega⟩, ?_⟩⟩
          rw [w32_s (i := u) (by omega), tn]
          refine ih3 _ (fun c hc => (upm_off c hc).trans (j1 c hc)) (fun k hk => ?_)
          by_cases w : k = u
          · rw [w, upm_s]
          · rw [upm_k w]; exact j2 k (by omega)
      exact wqB 0 (by omega) V' (fun _ _ => rfl) (fun k hk => absurd hk (Nat.not_lt_zero k))
  have wqA : ∀ p, p ≤ m1' → ∀ V' : Mem, (∀ c, c ≠ 392 → V' c = V1 c) → (∀ q, q < p → V' 392 q = wR P n V i q) → Wf K (d + 4) mX12_findsCommon 13 [some (vR 369), none, some (vI (o : Int)), some (vI (m1' : Int)), some (vI (p : Int)), none, none, none, none, none] [] V' (fun r V4 => r = none ∧ FrM V V4 ∧ V4 369 23 = m2' ∧ ∀ a b, a ≤ b → b ≤ m2' → V4 384 (21 * a + b) = ((lcS (wR P n V i) (wR P n V o) a (b - a) m1' : Nat) : Int)) := by
    refine up_ind ?_ ?_
    · intro V' g1 g2
      refine sX12_findsCommon_13 _ _ _ ⟨fun _ => ?_, fun c => absurd (Int.le_refl _) c⟩
      have fr : FrM V V' := k1.tr ⟨fun c q1 q2 => g1 c (by omega), fun j _ _ _ _ => by rw [g1 369 (by omega)]⟩
      refine (m_laysR (d := d) hI fr ho hm2).use (fun V2 ⟨j1, j2, j3, j4, j5⟩ => ?_)
      exact wqC V2 j1 j4 j5 (fun p hp => by rw [j2 392 (by omega) (by omega) (by omega) (by omega)]; exact g2 p hp) 0 (by omega) V2 (fun _ _ _ => rfl) (fun a b h => absurd h (Nat.not_lt_zero a))
    · intro p hp ih V' g1 g2
      refine sX12_findsCommon_13 _ _ _ ⟨fun c => by omega, fun _ => ⟨⟨by omega, by omega⟩, ⟨by omega, by omega⟩, ?_⟩⟩
      rw [tn, w32_s (by omega)]
      refine ih _ (fun c hc => (upm_off c hc).trans (g1 c hc)) (fun q hq => ?_)
      by_cases w : q = p
      · rw [w, upm_s, g1 383 (by omega)]; exact k5 p hp
      · rw [upm_k w]; exact g2 q (by omega)
  exact wqA 0 (Nat.zero_le _) V1 (fun _ _ => rfl) (fun q hq => absurd hq (Nat.not_lt_zero q))
theorem m_common (hI : Icore P n R V) (r o f t : Int) : Mi K (d + 5) mX12_common [vR 369, vI r, vI o, vI f, vI t] V (fun z V' => FrM V V' ∧ z = if rowC V r ∧ winC V o f t then ((lcS (wR P n V r.toNat) (wR P n V o.toNat) f.toNat (t.toNat - f.toNat) (V 381 r.toNat).toNat : Nat) : Int) else -1) := by
  obtain ⟨hx, hr0, hR, hC, hlx, hlm, hw⟩ := id hI
  have f0 : FrM V (upm V 369 0 0) := FrM.th 0
  refine sX12_common r o f t ((m_isRow (d := d + 3) r).use ?_)
  rw [f0.c375]
  by_cases hc : 0 ≤ r ∧ r < V 375 0
  · rw [if_pos hc]
    refine ⟨fun c => absurd c (by decide), fun _ => m_window (d := d + 2) hI o f t (fun h0 V1 hV => ⟨fun c => absurd rfl c, fun _ => ⟨_, rfl, hV, by rw [if_neg (fun q => h0 q.2)]⟩⟩) ?_⟩
    rintro j lo hi m2 rfl rfl rfl b1 b2 b3 b4 b5 hc2 V1 hV
    obtain ⟨i, rfl⟩ : ∃ i : Nat, r = i := ⟨r.toNat, by omega⟩
    have hi2 : i < R := by omega
    obtain ⟨m1, -, e1, -, l1, -⟩ := hI.row hi2
    refine ⟨fun _ => (m_findsCommon (d := d) hI hV hi2 b1 e1 b5).use (fun V4 ⟨v1, v2, v3⟩ => ?_), fun c => absurd c (by decide)⟩
    rw [ix21 (by omega) (by omega), tn, if_pos ⟨hc, hc2⟩, v3 lo hi b2 b3, tn, tn, tn, tn, e1, tn]
    exact ⟨⟨by omega, by omega⟩, _, rfl, v1, rfl⟩
  · rw [if_neg hc]
    exact ⟨fun _ => ⟨_, rfl, f0, by rw [if_neg (fun q => hc q.1)]⟩, fun c => absurd rfl c⟩
theorem m_meets (hI : Icore P n R V) (r o p : Int) : Mi K (d + 5) mX12_meets [vR 369, vI r, vI o, vI p] V (fun z V' => FrM V V' ∧ z = if rowC V r ∧ plC V o p then sfn (fun a b => ((lcS (wR P n V r.toNat) (wR P n V o.toNat) a (b - a) (V 381 r.toNat).toNat : Nat) : Int)) (V 381 o.toNat).toNat p.toNat else -1) := by
  obtain ⟨hx, hr0, hR, hC, hlx, hlm, hw⟩ := id hI
  have f0 : FrM V (upm V 369 0 0) := FrM.th 0
  refine sX12_meets r o p ((m_isRow (d := d + 3) r).use ?_)
  rw [f0.c375]
  by_cases hc : 0 ≤ r ∧ r < V 375 0
  · rw [if_pos hc]
    refine ⟨fun c => absurd c (by decide), fun _ => (m_isPlace (d := d + 2) (by rw [f0.c375, hr0]; omega) o p).use ?_⟩
    rw [f0.c375, f0.c381]
    by_cases hc2 : plC V o p
    · rw [if_pos hc2]
      obtain ⟨c1, c2, c3, c4⟩ := id hc2
      obtain ⟨i, rfl⟩ : ∃ i : Nat, r = i := ⟨r.toNat, by omega⟩
      obtain ⟨j, rfl⟩ : ∃ j : Nat, o = j := ⟨o.toNat, by omega⟩
      rw [tn] at c4
      have hi2 : i < R := by omega
      have hj : j < R := by omega
      obtain ⟨m1, -, e1, -, l1, -⟩ := hI.row hi2
      obtain ⟨m2, -, e2, -, l2, -⟩ := hI.row hj
      obtain ⟨q, rfl⟩ : ∃ q : Nat, p = q := ⟨p.toNat, by omega⟩
      refine ⟨fun _ => (m_findsCommon (d := d) hI f0 hi2 hj e1 e2).use (fun V4 ⟨v1, v2, v3⟩ => ?_), fun c => absurd c (by decide)⟩
      refine (m_strandOf (d := d + 2) (V := V4) v2 l2 (show q ≤ m2 by omega) (by omega) (fun a b h5 h6 => ?_)).use ⟨_, rfl, v1, ?_⟩
      · rw [v3 a b h5 h6]
        have := lcS_le (A := wR P n V i) (B := wR P n V j) (f := a) (b - a) m1
        omega
      · rw [if_pos ⟨hc, hc2⟩, tn, tn, tn, e1, e2, tn, tn]
        exact sfn_congr (fun a b h5 h6 => v3 a b h5 h6)
    · rw [if_neg hc2]
      exact ⟨fun c => absurd rfl c, fun _ => ⟨_, rfl, f0, by rw [if_neg (fun q => hc2 q.2)]⟩⟩
  · rw [if_neg hc]
    exact ⟨fun _ => ⟨_, rfl, f0, by rw [if_neg (fun q => hc q.1)]⟩, fun c => absurd rfl c⟩
end CCM
