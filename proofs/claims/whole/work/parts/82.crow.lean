/-! ===== the class reads a row ===== -/
def rwQ (t : Nat → Int) (L i : Nat) : Nat := nrR 99 t L 20 (i + 3)
def rwE (t : Nat → Int) (L i : Nat) : Nat := i + 3 + rwQ t L i
/-- behind the numbers -/
def rwZ (t : Nat → Int) (L e q : Nat) : Int := if 0 < q ∧ cT t L e = 59 then 0 else if gT t L e = 3 then (if nT t L e ≤ 99 then ftT t L e 5 else ftT t L e 4) else ftT t L e 1
def rwF (R B : Nat) (rI bI : Nat → Nat) (t : Nat → Int) (L i : Nat) : Int := if R = 4 then ftT t L i 5 else if nnF R B rI bI t L (i + 1) ≠ 0 then nnF R B rI bI t L (i + 1) else if cT t L (i + 2) < 136 ∨ 139 < cT t L (i + 2) then ftT t L (i + 2) 1 else rwZ t L (rwE t L i) (rwQ t L i)
def RRp (R B : Nat) (rI bI : Nat → Nat) (t : Nat → Int) (L i : Nat) (V : Mem) (z : Int) (V' : Mem) : Prop := (∀ c, c ≠ 1 → c ≠ 4 → c ≠ 5 → c ≠ 11 + 2 * R → c ≠ 12 + 2 * R → V' c = V c) ∧ (∀ j, j ≠ 8 → V' 4 j = V 4 j) ∧ V' 1 2 = (L : Nat) ∧ ((rwF R B rI bI t L i = 0 ∧ z = 1 ∧ V' 1 3 = (bpT t L (rwE t L i + 1) : Nat) ∧ V' 4 8 = V 4 8 ∧ V' 5 5 = ((R + 1 : Nat) : Int) ∧ (∀ j, j ≠ 5 → V' 5 j = V 5 j) ∧ V' (11 + 2 * R) 1 = wT 32 t L (i + 1) ∧ V' (11 + 2 * R) 2 = cT t L (i + 2) - 136 ∧ V' (11 + 2 * R) 3 = (rwQ t L i : Nat) ∧ ∀ p, p < rwQ t L i → V' (12 + 2 * R) p = nT t L (i + 3 + p)) ∨ (rwF R B rI bI t L i ≠ 0 ∧ z = 0 ∧ V' 4 8 = rwF R B rI bI t L i))
section CRW
variable {K : KK} {d : Nat} {V : Mem} {t : Nat → Int} {L i R B : Nat} {rI bI : Nat → Nat}
theorem c_readRow (hS : ∀ e, TSg K (d + 1 + e)) (hE : TE V t L) (hN : XN V t L R B rI bI) (hX : XA V t L i) : Mi K (d + 4) mX5_readRow [vR 4, vR 1] V (RRp R B rI bI t L i V) := by
  have h55 := hN.1
  have hR := hN.2.2.1
  refine sX5_readRow ?_
  rw [h55]
  refine ⟨fun c4 => ?_, fun c4 => ?_⟩
  · have cR : ¬ R = 4 := by omega
    refine (c_readNewName (d := d) (hS 0) hE hN hX.1 hX.2.1).use ?_
    rintro z W ⟨w1, w4, w2, w3⟩
    have hE1 : TE W t L := hE.congr (w1 2 (by decide) (by decide)) (w1 3 (by decide) (by decide))
    rcases w3 with ⟨k1, k2, k3⟩ | ⟨k1, k2, k3⟩
    · rw [k2]
      refine ⟨fun _ => ?_, fun q => absurd q (by decide)⟩
      have w55 : W 5 5 = (R : Nat) := by rw [w1 5 (by decide) (by decide)]; exact h55
      have g2 : gT t L (i + 1) = 2 := by
        by_cases c : nmT t L (i + 1) = true
        · exact (of_decide_eq_true c).1
        · unfold nnF at k1
          rw [if_neg c] at k1
          exact absurd k1 (ft_nz (by omega))
      rw [w55, tn, w2.2.2.2.2.2.2 g2]
      have hrow : IsRow (11 + 2 * R) := by
        have := obj6 (k := (R : Int)) ⟨by omega, by omega⟩
        rw [tn] at this
        exact this
      -- all that is known of a memory on the way
      have bad : ∀ (X : Mem) (F : Int), (∀ c, c ≠ 1 → c ≠ 4 → c ≠ 11 + 2 * R → c ≠ 12 + 2 * R → X c = V c) → (∀ j, j ≠ 8 → X 4 j = V 4 j) → X 1 2 = (L : Nat) → rwF R B rI bI t L i = F → F ≠ 0 → ∃ z, some (vI 0) = some (vI z) ∧ RRp R B rI bI t L i V z (upm X 4 8 F) := fun X F q1 q2 q3 q4 q5 => ⟨0, rfl, fun c p1 p2 p3 p4 p5 => by rw [upm_off c p2]; exact q1 c p1 p2 p4 p5, fun j p => by rw [upm_k p]; exact q2 j p, by rw [upm_off 1 (by decide)]; exact q3, Or.inr ⟨by rw [q4]; exact q5, rfl, by rw [upm_s, q4]⟩⟩
      have f2 : rwF R B rI bI t L i = if cT t L (i + 2) < 136 ∨ 139 < cT t L (i + 2) then ftT t L (i + 2) 1 else rwZ t L (rwE t L i) (rwQ t L i) := by unfold rwF; rw [if_neg cR, if_neg (fun h => h k1)]
      generalize hX0 : upm (upm W (11 + 2 * R) 1 (wT 32 t L (i + 1))) (11 + 2 * R) 3 0 = X0
      have x1 : ∀ c, c ≠ 1 → c ≠ 4 → c ≠ 11 + 2 * R → X0 c = V c := fun c p1 p2 p3 => by rw [← hX0, upm_off c p3, upm_off c p3]; exact w1 c p1 p2
      have x4 : X0 4 = W 4 := by rw [← hX0, upm_off 4 (by omega), upm_off 4 (by omega)]
      have x11 : X0 1 = W 1 := by rw [← hX0, upm_off 1 (by omega), upm_off 1 (by omega)]
      have xa : X0 (11 + 2 * R) 1 = wT 32 t L (i + 1) := by rw [← hX0, upm_k (by decide), upm_s]
      have xc : X0 (11 + 2 * R) 3 = 0 := by rw [← hX0, upm_s]
      clear hX0
      have hE2 : TE X0 t L := hE.congr (x1 2 (by decide) (by decide) (by omega)) (x1 3 (by decide) (by decide) (by omega))
      refine ⟨⟨by omega, by omega⟩, (c_adv (d := d + 1) (hS 1) hE2 (by rw [x11]; exact w2.1) (by rw [x11]; exact w2.2.1)).imp ?_⟩
      rintro r Y ⟨y0, y1, y2'⟩
      have y2 : XA Y t L (i + 2) := y2'
      clear y2'
      have hE3 : TE Y t L := hE2.congr (y1 2 (by decide)) (y1 3 (by decide))
      have yf : ∀ c, c ≠ 1 → c ≠ 4 → c ≠ 11 + 2 * R → c ≠ 12 + 2 * R → Y c = V c := fun c p1 p2 p3 _ => by rw [y1 c p1]; exact x1 c p1 p2 p3
      have y4 : ∀ j, j ≠ 8 → Y 4 j = V 4 j := fun j p => by rw [y1 4 (by decide), x4]; exact w4 j p
      have y48 : Y 4 8 = V 4 8 := by rw [y1 4 (by decide), x4]; exact k3
      rw [y2.2.2.2.2.1]
      have one : cT t L (i + 2) < 136 ∨ 139 < cT t L (i + 2) → Wf K (d + 4) mX5_readRow 81 [some (vR 4), some (vR 1), none, none] [] Y (fun r V' => ∃ z, r = some (vI z) ∧ RRp R B rI bI t L i V z V') := fun q => by
        refine sX5_readRow_81 ?_
        rw [ftX hE3 y2 (by omega)]
        exact bad Y _ yf y4 y2.1 (by rw [f2, if_pos q]) (ft_nz (by omega))
      refine ⟨y0, fun c => one (Or.inl c), fun c => ⟨fun c2 => ?_, fun c2 => one (Or.inr (by omega))⟩⟩
      rw [if_neg (by omega)] at f2
      have e136 : w32 (cT t L (i + 2) - 136) = cT t L (i + 2) - 136 := w32_id (by omega) (by omega)
      rw [e136]
      clear e136 one
      -- the numbers
      have wqA : ∀ j, j ≤ 20 → (∀ k, k < j → gT t L (i + 3 + k) = 3 ∧ nT t L (i + 3 + k) ≤ 99) → ∀ T : Mem, (∀ c, c ≠ 1 → c ≠ 4 → c ≠ 11 + 2 * R → c ≠ 12 + 2 * R → T c = V c) → (∀ j, j ≠ 8 → T 4 j = V 4 j) → T 4 8 = V 4 8 → T 1 2 = (L : Nat) → T 1 3 = (bpT t L (i + 3 + j) : Nat) → T (11 + 2 * R) 1 = wT 32 t L (i + 1) → T (11 + 2 * R) 2 = cT t L (i + 2) - 136 → T (11 + 2 * R) 3 = (j : Nat) → (∀ p, p < j → T (12 + 2 * R) p = nT t L (i + 3 + p)) → Wf K (d + 4) mX5_readRow 102 [some (vR 4), some (vR 1), some (vR (11 + 2 * R)), some (vI (j : Int))] [] T (fun r V' => ∃ z, r = some (vI z) ∧ RRp R B rI bI t L i V z V') := by
        have key : ∀ j, j ≤ 20 → ((j < 20) → (∀ k, k < j + 1 → gT t L (i + 3 + k) = 3 ∧ nT t L (i + 3 + k) ≤ 99) → ∀ T : Mem, (∀ c, c ≠ 1 → c ≠ 4 → c ≠ 11 + 2 * R → c ≠ 12 + 2 * R → T c = V c) → (∀ j, j ≠ 8 → T 4 j = V 4 j) → T 4 8 = V 4 8 → T 1 2 = (L : Nat) → T 1 3 = (bpT t L (i + 3 + (j + 1)) : Nat) → T (11 + 2 * R) 1 = wT 32 t L (i + 1) → T (11 + 2 * R) 2 = cT t L (i + 2) - 136 → T (11 + 2 * R) 3 = ((j + 1 : Nat) : Int) → (∀ p, p < j + 1 → T (12 + 2 * R) p = nT t L (i + 3 + p)) → Wf K (d + 4) mX5_readRow 102 [some (vR 4), some (vR 1), some (vR (11 + 2 * R)), some (vI ((j + 1 : Nat) : Int))] [] T (fun r V' => ∃ z, r = some (vI z) ∧ RRp R B rI bI t L i V z V')) → (∀ k, k < j → gT t L (i + 3 + k) = 3 ∧ nT t L (i + 3 + k) ≤ 99) → ∀ T : Mem, (∀ c, c ≠ 1 → c ≠ 4 → c ≠ 11 + 2 * R → c ≠ 12 + 2 * R → T c = V c) → (∀ j, j ≠ 8 → T 4 j = V 4 j) → T 4 8 = V 4 8 → T 1 2 = (L : Nat) → T 1 3 = (bpT t L (i + 3 + j) : Nat) → T (11 + 2 * R) 1 = wT 32 t L (i + 1) → T (11 + 2 * R) 2 = cT t L (i + 2) - 136 → T (11 + 2 * R) 3 = (j : Nat) → (∀ p, p < j → T (12 + 2 * R) p = nT t L (i + 3 + p)) → Wf K (d + 4) mX5_readRow 102 [some (vR 4), some (vR 1), some (vR (11 + 2 * R)), some (vI (j : Int))] [] T (fun r V' => ∃ z, r = some (vI z) ∧ RRp R B rI bI t L i V z V') := by
          intro j hj nxt hg T t1 t2 t3 t4 t5 t6 t7 t8 t9
          have hET : TE T t L := hE.congr (t1 2 (by decide) (by decide) (by omega) (by omega)) (t1 3 (by decide) (by decide) (by omega) (by omega))
          refine sX5_readRow_102 _ _ hrow ⟨fun c => by omega, fun _ => (c_adv (d := d + 1) (hS 1) hET t4 t5).imp ?_⟩
          rintro r A ⟨a0, a1, a2⟩
          have hEA : TE A t L := hET.congr (a1 2 (by decide)) (a1 3 (by decide))
          have af : ∀ c, c ≠ 1 → c ≠ 4 → c ≠ 11 + 2 * R → c ≠ 12 + 2 * R → A c = V c := fun c p1 p2 p3 p4 => by rw [a1 c p1]; exact t1 c p1 p2 p3 p4
          have a4 : ∀ j, j ≠ 8 → A 4 j = V 4 j := fun j p => by rw [a1 4 (by decide)]; exact t2 j p
          have a48 : A 4 8 = V 4 8 := by rw [a1 4 (by decide)]; exact t3
          have ar : A (11 + 2 * R) = T (11 + 2 * R) := a1 _ (by omega)
          have an : A (12 + 2 * R) = T (12 + 2 * R) := a1 _ (by omega)
          have a3j : A (11 + 2 * R) 3 = (j : Nat) := by rw [ar]; exact t8
          -- the run ends here
          have stop : (j = 20 ∨ ¬ (gT t L (i + 3 + j) = 3 ∧ nT t L (i + 3 + j) ≤ 99)) → rwQ t L i = j ∧ rwE t L i = i + 3 + j := fun q => by
            have e : rwQ t L i = j := nr_un 20 (i + 3) j hj hg q
            exact ⟨e, by unfold rwE; rw [e]⟩
          have onw : ¬ (0 < j ∧ cT t L (i + 3 + j) = 59) → Wf K (d + 4) mX5_readRow 143 [some (vR 4), some (vR 1), some (vR (11 + 2 * R)), some (vI (j : Int))] [] A (fun r V' => ∃ z, r = some (vI z) ∧ RRp R B rI bI t L i V z V') := by
            intro no
            have gA := a2.2.2.1
            refine sX5_readRow_143 _ _ hrow ⟨fun c => ?_, fun c => ?_⟩
            · have g3 : gT t L (i + 3 + j) = 3 := by omega
              rw [a2.2.2.2.2.2.1 g3]
              refine ⟨fun c9 => sX6_add _ _ hrow ?_, fun c9 => ?_⟩
              · rw [upm_a (b := 11 + 2 * R) (by omega), a3j, tn, w32_s (i := j) (by omega), show 11 + 2 * R + 1 = 12 + 2 * R by omega]
                refine ⟨fun x => by omega, fun _ => ⟨fun x => ⟨⟨by omega, by omega⟩, 1, rfl, fun _ => ?_, fun y => absurd y (by decide)⟩, fun x => ⟨0, rfl, fun y => absurd rfl y, fun _ => ?_⟩⟩⟩
                · refine nxt (by omega) (fun k hk => ?_) _ (fun c p1 p2 p3 p4 => by rw [upm_off c p3, upm_off c p4]; exact af c p1 p2 p3 p4) (fun j p => by rw [upm_off 4 (by omega), upm_off 4 (by omega)]; exact a4 j p) (by rw [upm_off 4 (by omega), upm_off 4 (by omega)]; exact a48) (by rw [upm_off 1 (by omega), upm_off 1 (by omega)]; exact a2.1) (by rw [upm_off 1 (by omega), upm_off 1 (by omega)]; exact a2.2.1) (by rw [upm_k (by decide), upm_off (11 + 2 * R) (by omega), ar]; exact t6) (by rw [upm_k (by decide), upm_off (11 + 2 * R) (by omega), ar]; exact t7) (upm_s _ _ _ _) (fun p hp => ?_)
                  · by_cases e : k = j
                    · rw [e]; exact ⟨g3, c9⟩
                    · exact hg k (by omega)
                  · rw [upm_off (12 + 2 * R) (by omega)]
                    by_cases e : p = j
                    · rw [e, upm_s]
                    · rw [upm_k e, an]; exact t9 p (by omega)
                · obtain ⟨s1, s2⟩ := stop (Or.inl (by omega))
                  rw [ftX hEA a2 (by omega)]
                  exact bad A _ af a4 a2.1 (by rw [f2, s1, s2]; unfold rwZ; rw [if_neg no, if_pos g3, if_pos c9]) (ft_nz (by omega))
              · obtain ⟨s1, s2⟩ := stop (Or.inr (fun x => c9 x.2))
                rw [ftX hEA a2 (by omega)]
                exact bad A _ af a4 a2.1 (by rw [f2, s1, s2]; unfold rwZ; rw [if_neg no, if_pos g3, if_neg c9]) (ft_nz (by omega))
            · have g3 : ¬ gT t L (i + 3 + j) = 3 := by omega
              obtain ⟨s1, s2⟩ := stop (Or.inr (fun x => g3 x.1))
              rw [ftX hEA a2 (by omega)]
              exact bad A _ af a4 a2.1 (by rw [f2, s1, s2]; unfold rwZ; rw [if_neg no, if_neg g3]) (ft_nz (by omega))
          rw [a2.2.2.2.2.1, a3j]
          refine ⟨a0, fun c => onw (fun x => c x.2), fun c => ⟨fun c0 => onw (fun x => by omega), fun c0 => ?_⟩⟩
          have g4 : ¬ gT t L (i + 3 + j) = 3 := fun x => by
            have := (tk_sign (t := t) (L := L) (p := psT t L (i + 3 + j)) (s := 59) (by decide)).1 c
            have x' : tkG t L (psT t L (i + 3 + j)) = 3 := x
            omega
          obtain ⟨s1, s2⟩ := stop (Or.inr (fun x => g4 x.1))
          have a55 : A 5 5 = (R : Nat) := by rw [af 5 (by decide) (by decide) (by omega) (by omega)]; exact h55
          rw [a55, w32_s (i := R) (by omega)]
          refine ⟨1, rfl, fun c p1 p2 p3 p4 p5 => by rw [upm_off c p3]; exact af c p1 p2 p4 p5, fun j p => by rw [upm_off 4 (by decide)]; exact a4 j p, by rw [upm_off 1 (by decide)]; exact a2.1, Or.inl ⟨?_, rfl, by rw [upm_off 1 (by decide), s2]; exact a2.2.1, by rw [upm_off 4 (by decide)]; exact a48, upm_s _ _ _ _, fun j p => by rw [upm_k p, af 5 (by decide) (by decide) (by omega) (by omega)], by rw [upm_off (11 + 2 * R) (by omega), ar]; exact t6, by rw [upm_off (11 + 2 * R) (by omega), ar]; exact t7, by rw [upm_off (11 + 2 * R) (by omega), s1]; exact a3j, fun p hp => ?_⟩⟩
          · rw [f2, s1, s2]; exact if_pos ⟨by omega, c⟩
          · rw [s1] at hp
            rw [upm_off (12 + 2 * R) (by omega), an]
            exact t9 p hp
        exact up_ind (key 20 (Nat.le_refl _) (fun x => by omega)) (fun j hj ih => key j (by omega) (fun _ => ih))
      refine wqA 0 (by omega) (fun k hk => by omega) _ (fun c p1 p2 p3 p4 => by rw [upm_off c p3]; exact yf c p1 p2 p3 p4) (fun j p => by rw [upm_off 4 (by omega)]; exact y4 j p) (by rw [upm_off 4 (by omega)]; exact y48) (by rw [upm_off 1 (by omega)]; exact y2.1) (by rw [upm_off 1 (by omega)]; exact y2.2.1) (by rw [upm_k (by decide), y1 _ (by omega)]; exact xa) (upm_s _ _ _ _) (by rw [upm_k (by decide), y1 _ (by omega)]; exact xc) (fun p hp => by omega)
    · rw [k2]
      have f1 : rwF R B rI bI t L i = nnF R B rI bI t L (i + 1) := by unfold rwF; rw [if_neg cR, if_pos k1]
      exact ⟨fun q => absurd rfl q, fun _ => ⟨0, rfl, fun c p1 p2 _ _ _ => w1 c p1 p2, w4, w2.1, Or.inr ⟨by rw [f1]; exact k1, rfl, by rw [f1]; exact k3⟩⟩⟩
  · have cR : R = 4 := by omega
    have f0 : rwF R B rI bI t L i = ftT t L i 5 := if_pos cR
    rw [ftX hE hX (by omega)]
    exact ⟨0, rfl, fun c p1 p2 _ _ _ => upm_off c p2, fun j p => upm_k p, by rw [upm_off 1 (by decide)]; exact hX.1, Or.inr ⟨by rw [f0]; exact ft_nz (by omega), rfl, by rw [f0, upm_s]⟩⟩
end CRW
