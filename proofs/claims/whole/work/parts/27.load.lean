/-! ===== the weights of a row: the reference's worthAt and laysRow, the class's load ===== -/
theorem md16 {t1 t2 : Int} (h1 : 0 ≤ t1 ∧ t1 < 16) (h2 : 0 ≤ t2 ∧ t2 ≤ 9999) : w32 (Int.tdiv (t1 + 16 * t2) 16) = t2 := by
  rw [Int.tdiv_eq_ediv_of_nonneg (by omega), w32_id (by omega) (by omega)]; omega
theorem mr16 {t1 t2 : Int} (h1 : 0 ≤ t1 ∧ t1 < 16) (h2 : 0 ≤ t2 ∧ t2 ≤ 9999) : w32 ((t1 + 16 * t2) - w32 (w32 (Int.tdiv (t1 + 16 * t2) 16) * 16)) = t1 := by
  rw [md16 h1 h2, w32_id (x := t2 * 16) (by omega) (by omega), w32_id (by omega) (by omega)]; omega
/-- the reference's law is the program P of n tokens -/
def lawM (V : Mem) (P : Nat → Int × Int) (n : Nat) : Prop := (V 375 2 = -1 ∧ n = 1 ∧ P 0 = (2, 0)) ∨ ∃ o : Nat, V 375 2 = o ∧ o + n < 2200 ∧ (∀ i, i < n → V 376 (o + i) = (P i).1 + 16 * (P i).2) ∧ V 376 (o + n) = 0
section CLD
variable {K : KK} {d : Nat} {V : Mem}
theorem m_worthAt {o n : Nat} {P : Nat → Int × Int} (ho : o + n < 2200) (hP : ∀ i, i < n → V 376 (o + i) = (P i).1 + 16 * (P i).2) (hE : V 376 (o + n) = 0) (hw : wfP P n) : Mi K (d + 1) mX12_worthAt [vR 369, vI (o : Int)] V (fun z V' => z = wv (fun k => V 379 k.toNat) P n ∧ ∀ c, c ≠ 380 → V' c = V c) := by
  refine sX12_worthAt o ?_
  generalize hf : (fun k : Int => V 379 k.toNat) = f
  have hf2 : ∀ k : Int, f k = V 379 k.toNat := fun k => by rw [← hf]
  have wqA : ∀ i, i ≤ n → ∀ V' : Mem, (∀ c, c ≠ 380 → V' c = V c) → (∀ j, j < dp P i → V' 380 j = vr f P i j) → Wf K (d + 1) mX12_worthAt 4 [some (vR 369), none, some (vI (dp P i : Int)), some (vI ((o + i : Nat) : Int)), none] [] V' (fun r V' => ∃ z, r = some (vI z) ∧ (z = wv f P n ∧ ∀ c, c ≠ 380 → V' c = V c)) := by
    refine up_ind ?_ ?_
    · intro V' hV hS
      have h1 := hw.2
      refine sX12_worthAt_4 _ _ ?_
      rw [tn, hV 376 (by omega), hE]
      have e0 : w32 (0 - w32 (w32 (Int.tdiv 0 16) * 16)) = 0 := by decide
      rw [e0]
      refine ⟨⟨by omega, by omega⟩, fun _ => ⟨_, rfl, hS 0 (by omega), hV⟩, fun c => absurd rfl c⟩
    · intro i hi ih V' hV hS
      obtain ⟨tk, w1, w2, w3⟩ := hw.1 i hi
      refine sX12_worthAt_4 _ _ ?_
      rw [tn, hV 376 (by omega), hP i hi]
      have ed : dp P (i + 1) = if (P i).1 ≤ 2 then dp P i + 1 else if (P i).1 = 3 then dp P i else dp P i - 1 := rfl
      have ev : ∀ j, vr f P (i + 1) j = if (P i).1 = 1 then (if j = dp P i then (P i).2 else vr f P i j) else if (P i).1 = 2 then (if j = dp P i then f (P i).2 else vr f P i j) else if (P i).1 = 3 then (if j = dp P i - 1 then (if vr f P i (dp P i - 1) = 0 then 1 else 0) else vr f P i j) else (if j = dp P i - 2 then bop (P i).1 (vr f P i (dp P i - 2)) (vr f P i (dp P i - 1)) else vr f P i j) := fun j => rfl
      have hPi := hP i hi
      have eo : ((o + i : Nat) : Int) + 1 = ((o + (i + 1) : Nat) : Int) := by omega
      have e9 : w32 (((o + i : Nat) : Int) + 1) = ((o + (i + 1) : Nat) : Int) := by rw [w32_id (by omega) (by omega)]; exact eo
      generalize hg : P i = t at *
      have tr : (0 ≤ t.1 ∧ t.1 < 16) ∧ (0 ≤ t.2 ∧ t.2 ≤ 9999) := by unfold tokok at tk; omega
      rw [mr16 tr.1 tr.2]
      rcases tk with ⟨t1, t2, t3⟩ | ⟨t1, t2, t3⟩ | ⟨t1, t2⟩ | ⟨t1, t2, t3⟩
      · have hd := w1 (by omega)
        refine ⟨⟨by omega, by omega⟩, fun c => by omega, fun _ => ⟨⟨by omega, by omega⟩, fun _ => ?_, fun c => absurd t1 c⟩⟩
        refine sX12_worthAt_39 _ _ _ ⟨fun c => absurd t1 c, fun _ => ⟨⟨by omega, by omega⟩, ?_⟩⟩
        rw [tn, hV 376 (by omega), hPi, md16 tr.1 tr.2]
        refine sX12_worthAt_76 _ _ _ _ ⟨⟨by omega, by omega⟩, ?_⟩
        refine sX12_worthAt_146 _ _ ?_
        rw [e9, tn, w32_s (by omega)]
        rw [if_pos (by omega)] at ed
        rw [← ed]
        refine ih _ (fun c hc => (upm_off c hc).trans (hV c hc)) (fun j hj => ?_)
        rw [ev j, if_pos t1]
        by_cases q : j = dp P i
        · subst q; rw [upm_s, if_pos rfl]
        · rw [upm_k q, if_neg q]; exact hS j (by omega)
      · have hd := w1 (by omega)
        refine ⟨⟨by omega, by omega⟩, fun c => by omega, fun _ => ⟨⟨by omega, by omega⟩, fun c => by omega, fun _ => ⟨fun c => absurd t1 c, fun _ => ?_⟩⟩⟩
        refine sX12_worthAt_39 _ _ _ ⟨fun _ => ⟨⟨by omega, by omega⟩, ?_⟩, fun c => by omega⟩
        rw [tn, hV 376 (by omega), hPi, md16 tr.1 tr.2]
        refine ⟨⟨by omega, by omega⟩, ?_⟩
        rw [hV 379 (by omega), ← hf2]
        refine sX12_worthAt_76 _ _ _ _ ⟨⟨by omega, by omega⟩, ?_⟩
        refine sX12_worthAt_146 _ _ ?_
        rw [e9, tn, w32_s (by omega)]
        rw [if_pos (by omega)] at ed
        rw [← ed]
        refine ih _ (fun c hc => (upm_off c hc).trans (hV c hc)) (fun j hj => ?_)
        rw [ev j, if_neg (by omega), if_pos t1]
        by_cases q : j = dp P i
        · subst q; rw [upm_s, if_pos rfl]
        · rw [upm_k q, if_neg q]; exact hS j (by omega)
      · have hd := w2 t1
        have e3 : w32 ((dp P i : Int) - 1) = ((dp P i - 1 : Nat) : Int) := by rw [w32_id (by omega) (by omega)]; omega
        rw [if_neg (by omega), if_pos t1] at ed
        refine ⟨⟨by omega, by omega⟩, fun c => by omega, fun _ => ⟨⟨by omega, by omega⟩, fun c => by omega, fun _ => ⟨fun _ => ⟨fun c => absurd t1 c, fun _ => ?_⟩, fun c => by omega⟩⟩⟩
        rw [e3, tn, hS (dp P i - 1) (by omega)]
        have fin : ∀ z : Int, z = (if vr f P i (dp P i - 1) = 0 then 1 else 0) → Wf K (d + 1) mX12_worthAt 112 [some (vR 369), none, some (vI (dp P i : Int)), some (vI ((o + i : Nat) : Int)), none] [vI z, vI ((dp P i - 1 : Nat) : Int), vR 380] V' (fun r V' => ∃ z, r = some (vI z) ∧ (z = wv f P n ∧ ∀ c, c ≠ 380 → V' c = V c)) := by
          intro z hz
          refine sX12_worthAt_112 _ _ _ _ ⟨⟨by omega, by omega⟩, ?_⟩
          refine sX12_worthAt_146 _ _ ?_
          rw [tn, e9]
          have := ih (upm V' 380 (dp P i - 1) z) (fun c hc => (upm_off c hc).trans (hV c hc)) (fun j hj => by
            rw [ev j, if_neg (by omega), if_neg (by omega), if_pos t1]
            by_cases q : j = dp P i - 1
            · subst q; rw [upm_s, if_pos rfl]; exact hz
            · rw [upm_k q, if_neg q]; exact hS j (by omega))
          rw [ed] at this
          exact this
        exact ⟨⟨by omega, by omega⟩, fun c => fin 0 (by rw [if_neg c]), fun c => fin 1 (by rw [if_pos c])⟩
      · have hd := w3 t1
        have e3 : w32 ((dp P i : Int) + (-1)) = ((dp P i - 1 : Nat) : Int) := by rw [w32_id (by omega) (by omega)]; omega
        have e4 : w32 (((dp P i - 1 : Nat) : Int) - 1) = ((dp P i - 2 : Nat) : Int) := by rw [w32_id (by omega) (by omega)]; omega
        refine ⟨⟨by omega, by omega⟩, fun c => by omega, fun _ => ⟨⟨by omega, by omega⟩, fun c => by omega, fun _ => ⟨fun _ => ⟨fun _ => ?_, fun c => by omega⟩, fun c => by omega⟩⟩⟩
        rw [e3, e4, tn, tn, hS (dp P i - 2) (by omega), hS (dp P i - 1) (by omega)]
        refine ⟨⟨by omega, by omega⟩, ⟨by omega, by omega⟩, (m_worked (d := d) ⟨t1, t2⟩ _ _).use ⟨⟨by omega, by omega⟩, ?_⟩⟩
        refine sX12_worthAt_146 _ _ ?_
        rw [e9]
        rw [if_neg (by omega), if_neg (by omega)] at ed
        rw [← ed]
        refine ih _ (fun c hc => (upm_off c hc).trans (hV c hc)) (fun j hj => ?_)
        rw [ev j, if_neg (by omega), if_neg (by omega), if_neg (by omega)]
        by_cases q : j = dp P i - 2
        · subst q; rw [upm_s, if_pos rfl, ed]
        · rw [upm_k q, if_neg q]; exact hS j (by omega)
  have := wqA 0 (Nat.zero_le n) V (fun _ _ => rfl) (fun j hj => absurd hj (Nat.not_lt_zero j))
  exact this
theorem fct_k {x1 x2 x3 x4 : Int} {g : Nat → Int} (h0 : g 0 = x1) (h1 : g 1 = x2) (h2 : g 2 = x3) (h3 : g 3 = x4) {k : Int} (hk : 0 ≤ k ∧ k ≤ 3) : g k.toNat = fct x1 x2 x3 x4 k := by
  have e : k = 0 ∨ k = 1 ∨ k = 2 ∨ k = 3 := by omega
  rcases e with rfl | rfl | rfl | rfl
  · exact h0
  · exact h1
  · exact h2
  · exact h3
theorem vr_congr {f g : Int → Int} {P : Nat → Int × Int} {n : Nat} (hw : wfP P n) (h : ∀ k, 0 ≤ k ∧ k ≤ 3 → f k = g k) : ∀ i, i ≤ n → vr f P i = vr g P i
  | 0, _ => rfl
  | i + 1, hi => by
    have ih := vr_congr hw h i (by omega)
    funext j
    show (if _ then _ else _) = (if _ then _ else _)
    rw [ih]
    by_cases q : (P i).1 = 2
    · have tk := (hw.1 i (by omega)).1
      have : f (P i).2 = g (P i).2 := h _ (by unfold tokok at tk; omega)
      rw [this]
    · rw [if_neg q, if_neg q]
/-- the class loads a row: its kind, its many, its weights -/
theorem c_load {a b w m n : Nat} {P : Nat → Int × Int} (h0 : IsChains a) (h1 : IsRow b) (h2 : IsLaw w) (hl : lawX V w P n) (hw : wfP P n) (hm : V b 3 = m) (h20 : m ≤ 20) (hab : a + 4 < b ∨ b + 1 < a) (haw : w + 2 < a) (hbw : w + 2 < b ∨ b + 1 < w) : Mv K (d + 2) mX1_load [vR a, vR b, vR w] V (fun V' => (∀ c, c ≠ a → c ≠ a + 1 → c ≠ w + 2 → V' c = V c) ∧ (∀ j, j ≠ 4 → j ≠ 6 → V' a j = V a j) ∧ V' a 4 = m ∧ V' a 6 = V b 2 ∧ ∀ p, p < m → V' (a + 1) p = wv (fct (V (b + 1) p) p m (V b 2)) P n) := by
  refine sX1_load a b w h0 h1 h2 ?_
  have e1 : min (V b 3) 20 = (m : Int) := by rw [hm]; omega
  rw [e1, upm_a (b := b) (by omega)]
  have wqA : ∀ i, i ≤ m → ∀ V' : Mem, (∀ c, c ≠ a → c ≠ a + 1 → c ≠ w + 2 → V' c = V c) → (∀ j, j ≠ 4 → j ≠ 6 → V' a j = V a j) → V' a 4 = (m : Int) → V' a 6 = V b 2 → (∀ p, p < i → V' (a + 1) p = wv (fct (V (b + 1) p) p m (V b 2)) P n) → Wf K (d + 2) mX1_load 26 [some (vR a), some (vR b), some (vR w), some (vI (i : Int))] [] V' (fun r V' => r = none ∧ (∀ c, c ≠ a → c ≠ a + 1 → c ≠ w + 2 → V' c = V c) ∧ (∀ j, j ≠ 4 → j ≠ 6 → V' a j = V a j) ∧ V' a 4 = (m : Int) ∧ V' a 6 = V b 2 ∧ ∀ p, p < m → V' (a + 1) p = wv (fct (V (b + 1) p) p m (V b 2)) P n) := by
    refine up_ind ?_ ?_
    · intro V' g1 g2 g3 g4 g5
      exact sX1_load_26 a b w _ h0 h1 h2 ⟨fun _ => ⟨rfl, g1, g2, g3, g4, g5⟩, fun c => absurd (by rw [g3]; exact Int.le_refl _) c⟩
    · intro i hi ih V' g1 g2 g3 g4 g5
      refine sX1_load_26 a b w _ h0 h1 h2 ⟨fun c => absurd c (by rw [g3]; omega), fun _ => ⟨⟨by omega, by omega⟩, ?_⟩⟩
      rw [tn, g1 (b + 1) (by omega) (by omega) (by omega), g1 b (by omega) (by omega) (by omega), hm, g4]
      have hl2 : lawX V' w P n := ⟨by rw [g1 w (by omega) (by omega) (by omega)]; exact hl.1, hl.2.1, fun j hj => by rw [g1 (w + 1) (by omega) (by omega) (by omega)]; exact hl.2.2 j hj⟩
      refine (c_weigh (d := d) h2 hl2 hw _ _ _ _).use (fun z V2 ⟨z1, z2⟩ => ⟨⟨by omega, by omega⟩, ?_⟩)
      rw [w32_s (by omega)]
      have ca : upm V2 (a + 1) i z a = V' a := by rw [upm_off a (by omega), z2 a (by omega)]
      refine ih _ (fun c q1 q2 q3 => by rw [upm_off c q2, z2 c q3]; exact g1 c q1 q2 q3) (fun j q1 q2 => by rw [ca]; exact g2 j q1 q2) (by rw [ca]; exact g3) (by rw [ca]; exact g4) (fun p hp => ?_)
      rcases Nat.lt_or_ge p i with q | q
      · rw [upm_k (by omega), z2 (a + 1) (by omega)]; exact g5 p q
      · have : p = i := by omega
        subst this
        rw [upm_s, z1]
  exact wqA 0 (Nat.zero_le m) _ (fun c q1 _ _ => by rw [upm_off c q1, upm_off c q1]) (fun j q1 q2 => by rw [upm_k q2, upm_k q1]) (by rw [upm_k (by omega), upm_s]) (upm_s _ _ _ _) (fun p hp => absurd hp (Nat.not_lt_zero p))
end CLD
