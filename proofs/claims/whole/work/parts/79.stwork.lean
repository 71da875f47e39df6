/-! ===== work, with the coupling ===== -/
theorem LnC.congr2 {V V' : Mem} {R BT : Nat} (h : LnC V R BT) (h1 : ∀ c, 138 ≤ c → c ≤ 141 → V' c = V c) (h2 : ∀ j, j < 95 → V' 378 j = V 378 j) : LnC V' R BT := by
  obtain ⟨n, a1, a2, a3, a4⟩ := h
  refine ⟨n, by rw [h1 138 (by omega) (by omega)]; exact a1, by rw [h2 0 (by omega)]; exact a2, a3, fun i hi => ?_⟩
  rw [h1 139 (by omega) (by omega), h1 140 (by omega) (by omega), h1 141 (by omega) (by omega), h2 (1 + 3 * i) (by omega), h2 (2 + 3 * i) (by omega), h2 (3 + 3 * i) (by omega)]
  exact a4 i hi
theorem wkF_ok {nm : Nat → Int} {R BT : Nat} {t : Nat → Int} {L : Nat} : ∀ f i n : Nat, ∀ l : Nat → Nat, f + n = 31 → n ≤ 30 → (∀ k, k < n → lnF nm R BT t L (l k) k = 0) → (wkF nm R BT t L f i n l).1 = 0 → (wkF nm R BT t L f i n l).2.1 ≤ 30 ∧ ∀ k, k < (wkF nm R BT t L f i n l).2.1 → lnF nm R BT t L ((wkF nm R BT t L f i n l).2.2 k) k = 0
  | 0, i, n, l, e, hn, _, _ => by omega
  | f + 1, i, n, l, e, hn, hl, h => by
    have q : wkF nm R BT t L (f + 1) i n l = if gT t L i = 0 then ((0 : Int), n, l) else if lnF nm R BT t L i n ≠ 0 then (lnF nm R BT t L i n, n, l) else wkF nm R BT t L f (lnE t L i + 1) (n + 1) (fun k => if k = n then i else l k) := rfl
    rw [q] at h ⊢
    by_cases c : gT t L i = 0
    · rw [if_pos c]
      exact ⟨hn, hl⟩
    · rw [if_neg c] at h ⊢
      by_cases c2 : lnF nm R BT t L i n ≠ 0
      · rw [if_pos c2] at h
        exact absurd h c2
      · rw [if_neg c2] at h ⊢
        have c3 : lnF nm R BT t L i n = 0 := Decidable.not_not.1 c2
        have c4 := lnF_n c3
        refine wkF_ok f (lnE t L i + 1) (n + 1) _ (by omega) (by omega) (fun k hk => ?_) h
        show lnF nm R BT t L (if k = n then i else l k) k = 0
        by_cases x : k = n
        · rw [if_pos x, x]; exact c3
        · rw [if_neg x]; exact hl k (by omega)
theorem lk_r {nm : Nat → Int} {a m : Nat} {t : Nat → Int} {L i : Nat} (h : lkT nm a m t L i ≠ -1) : 0 ≤ lkT nm a m t L i ∧ lkT nm a m t L i < (m : Int) := by
  rcases fsN_v (f := fun k => nm (a + k)) (e := wT 37 t L i) m with ⟨k1, k2⟩ | ⟨s, k1, k2, k3⟩
  · exact absurd k1 h
  · have e : lkT nm a m t L i = (s : Int) := k1
    omega
theorem tl_r {t : Nat → Int} {L i : Nat} {z : Int} (h : tlF t L i z = 0) : z ≠ -1 := by
  intro e
  unfold tlF at h
  by_cases c : nmT t L i = true
  · rw [if_pos c, if_pos e] at h
    exact ft_nz (by omega) h
  · rw [if_neg c] at h
    exact ft_nz (by omega) h
theorem nu_r {t : Nat → Int} {L i : Nat} {hi : Int} (h : nuF t L i hi = 0) : 0 ≤ nT t L i ∧ nT t L i ≤ hi := by
  unfold nuF at h
  by_cases c : gT t L i = 3
  · rw [if_pos c] at h
    by_cases c2 : nT t L i ≤ hi
    · exact ⟨(tk_n c).1, c2⟩
    · rw [if_neg c2] at h
      exact absurd h (ft_nz (by omega))
  · rw [if_neg c] at h
    exact absurd h (ft_nz (by omega))
/-- a line without a fault is one of five -/
theorem ln_ok {nm : Nat → Int} {R BT : Nat} {t : Nat → Int} {L i n : Nat} (h : lnF nm R BT t L i n = 0) : (cT t L i - 131 = 0 ∧ (0 ≤ lnA nm R BT t L i ∧ lnA nm R BT t L i < R) ∧ 0 ≤ lnB nm BT t L i ∧ lnB nm BT t L i ≤ 99) ∨ ((cT t L i - 131 = 1 ∨ cT t L i - 131 = 2) ∧ 0 ≤ lnA nm R BT t L i ∧ lnA nm R BT t L i < R) ∨ (cT t L i - 131 = 3 ∧ (0 ≤ lnA nm R BT t L i ∧ lnA nm R BT t L i < BT) ∧ 0 ≤ lnB nm BT t L i ∧ lnB nm BT t L i ≤ 8) ∨ (cT t L i - 131 = 4 ∧ (0 ≤ lnA nm R BT t L i ∧ lnA nm R BT t L i < BT) ∧ 0 ≤ lnB nm BT t L i ∧ lnB nm BT t L i < BT) := by
  unfold lnF at h
  by_cases cR : cT t L i < 131 ∨ 135 < cT t L i
  · rw [if_pos cR] at h; exact absurd h (ft_nz (by omega))
  · rw [if_neg cR] at h
    by_cases cN : n = 30
    · rw [if_pos cN] at h; exact absurd h (ft_nz (by omega))
    · rw [if_neg cN] at h
      by_cases c1 : tlF t L (i + 1) (lnA nm R BT t L i) = 0
      · rw [if_neg (fun x => x c1)] at h
        have hA := tl_r c1
        by_cases c2 : ln3 nm BT t L i = 0
        · clear h
          have row : cT t L i < 134 → 0 ≤ lnA nm R BT t L i ∧ lnA nm R BT t L i < R := fun q => by
            have e : lnA nm R BT t L i = lkT nm 0 R t L (i + 1) := if_pos q
            rw [e] at hA ⊢
            exact lk_r hA
          have brd : ¬ cT t L i < 134 → 0 ≤ lnA nm R BT t L i ∧ lnA nm R BT t L i < BT := fun q => by
            have e : lnA nm R BT t L i = lkT nm 4 BT t L (i + 1) := if_neg q
            rw [e] at hA ⊢
            exact lk_r hA
          unfold ln3 at c2
          by_cases d1 : cT t L i = 131
          · rw [if_pos d1] at c2
            have eB : lnB nm BT t L i = nT t L (i + 2) := if_pos (Or.inl d1)
            rw [eB]
            exact Or.inl ⟨by omega, row (by omega), nu_r c2⟩
          · rw [if_neg d1] at c2
            by_cases d2 : cT t L i = 134
            · rw [if_pos d2] at c2
              have eB : lnB nm BT t L i = nT t L (i + 2) := if_pos (Or.inr d2)
              rw [eB]
              exact Or.inr (Or.inr (Or.inl ⟨by omega, brd (by omega), nu_r c2⟩))
            · rw [if_neg d2] at c2
              by_cases d3 : cT t L i = 135
              · rw [if_pos d3] at c2
                have eB : lnB nm BT t L i = lkT nm 4 BT t L (i + 2) := by unfold lnB; rw [if_neg (by omega), if_pos d3]
                rw [eB]
                exact Or.inr (Or.inr (Or.inr ⟨by omega, brd (by omega), lk_r (tl_r c2)⟩))
              · exact Or.inr (Or.inl ⟨by omega, row (by omega)⟩)
        · rw [if_pos c2] at h
          exact absurd h c2
      · rw [if_pos c1] at h
        exact absurd h c1
section STW
variable {K : KK} {d : Nat} {V : Mem}
theorem c_copyDeeds {n : Nat} (hn : V 38 3 = (n : Nat)) (h30 : n ≤ 30) : Mv K (d + 2) mX3_copyFrom [vR 138, vR 38] V (fun V' => (∀ c, c < 138 ∨ 142 ≤ c → V' c = V c) ∧ V' 138 3 = (n : Nat) ∧ ∀ k, k < n → V' 139 k = V 39 k ∧ V' 140 k = V 40 k ∧ V' 141 k = V 41 k) := by
  refine sX3_copyFrom 138 30 38 30 is138 is38 ?_
  have wqA : ∀ k, k ≤ n → ∀ W : Mem, (∀ c, c < 138 ∨ 142 ≤ c → W c = V c) → W 138 3 = (k : Nat) → (∀ j, j < k → W 139 j = V 39 j ∧ W 140 j = V 40 j ∧ W 141 j = V 41 j) → Wf K (d + 2) mX3_copyFrom 7 [some (vR 138), some (vR 38), some (vI (k : Int))] [] W (fun r V' => r = none ∧ (∀ c, c < 138 ∨ 142 ≤ c → V' c = V c) ∧ V' 138 3 = (n : Nat) ∧ ∀ k, k < n → V' 139 k = V 39 k ∧ V' 140 k = V 40 k ∧ V' 141 k = V 41 k) := by
    refine up_ind ?_ ?_
    · intro W g1 g2 g3
      refine sX3_copyFrom_7 138 30 38 30 _ is138 is38 ⟨fun _ => ⟨rfl, g1, g2, g3⟩, fun c => absurd ?_ c⟩
      rw [g1 38 (by omega), hn]; exact Int.le_refl _
    · intro k hk ih W g1 g2 g3
      obtain ⟨p1, p2, p3⟩ := c_dd (K := K) (d := d) (V := W) is38 (show W 38 3 = (n : Nat) by rw [g1 38 (by omega)]; exact hn) hk (by omega)
      refine sX3_copyFrom_7 138 30 38 30 _ is138 is38 ⟨fun c => absurd c (by rw [g1 38 (by omega), hn]; omega), fun _ => p1.use (p2.use (p3.use ?_))⟩
      refine Mv.use (c_add (d := d) is138 (by decide) g2 (by omega) _ _ _) ?_
      rintro X ⟨x1, x2, x3, x4, x5, x6⟩
      rw [if_neg (by omega)] at x2 x3 x4 x5 x6
      rw [if_neg (by omega)] at x3
      rw [w32_s (i := k) (by omega)]
      refine ih X (fun c q => by rw [x1 c (by omega)]; exact g1 c q) x2 (fun j hj => ?_)
      by_cases e : j = k
      · rw [e]
        rw [g1 (38 + 1) (by omega)] at x4
        rw [g1 (38 + 2) (by omega)] at x5
        rw [g1 (38 + 3) (by omega)] at x6
        exact ⟨x4, x5, x6⟩
      · have := x3 j (by omega)
        rw [Nat.add_zero] at this
        obtain ⟨y1, y2, y3⟩ := g3 j (by omega)
        exact ⟨this.1.trans y1, this.2.1.trans y2, this.2.2.trans y3⟩
  exact wqA 0 (Nat.zero_le _) _ (fun c q => by rw [upm_off c (by omega)]) (upm_s _ _ _ _) (fun j hj => by omega)
end STW
