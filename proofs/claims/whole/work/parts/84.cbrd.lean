/-! ===== the class reads a braid ===== -/
def bdB (t : Nat → Int) (L b j : Nat) : Bool := decide (gT t L (b + j) = 3 ∧ nT t L (b + j) ≤ 9 ∧ ∀ k, k < j → nT t L (b + k) ≠ nT t L (b + j))
def bqR (t : Nat → Int) (L b : Nat) : Nat → Nat → Nat
  | 0, j => j
  | f + 1, j => if bdB t L b j = true then bqR t L b f (j + 1) else j
def bdQ (t : Nat → Int) (L i : Nat) : Nat := bqR t L (i + 2) 10 0
theorem bq_un {t : Nat → Int} {L b j : Nat} (hj : j ≤ 10) : ∀ f a, a + f = 10 → a ≤ j → (∀ k, a ≤ k → k < j → bdG t L b k) → (j = 10 ∨ ¬ bdG t L b j) → bqR t L b f a = j
  | 0, a, e, h, _, _ => by
    show a = j
    omega
  | f + 1, a, e, h, h1, h2 => by
    by_cases c : a = j
    · have q : ¬ bdB t L b a = true := fun x => by
        rcases h2 with y | y
        · omega
        · rw [← c] at y
          have x' : gT t L (b + a) = 3 ∧ nT t L (b + a) ≤ 9 ∧ ∀ k, k < a → nT t L (b + k) ≠ nT t L (b + a) := of_decide_eq_true x
          exact y x'
      have e2 : bqR t L b (f + 1) a = a := if_neg q
      rw [e2, c]
    · have q0 : gT t L (b + a) = 3 ∧ nT t L (b + a) ≤ 9 ∧ ∀ k, k < a → nT t L (b + k) ≠ nT t L (b + a) := h1 a (Nat.le_refl _) (by omega)
      have q : bdB t L b a = true := decide_eq_true q0
      have e2 : bqR t L b (f + 1) a = bqR t L b f (a + 1) := if_pos q
      rw [e2]
      exact bq_un hj f (a + 1) (by omega) (by omega) (fun k p1 p2 => h1 k (by omega) p2) h2
def bdE (t : Nat → Int) (L i : Nat) : Nat := i + 2 + bdQ t L i
/-- are all below q there -/
def bdW (t : Nat → Int) (L b q : Nat) : Bool := decide (∀ s, s < q → nT t L (b + s) < (q : Int))
def bdZ (t : Nat → Int) (L b e q : Nat) : Int := if 0 < q ∧ cT t L e = 59 then (if bdW t L b q = true then 0 else ftT t L e 5) else if gT t L e = 3 then (if nT t L e ≤ 9 then ftT t L e 3 else ftT t L e 4) else ftT t L e 1
def bdF (R B : Nat) (rI bI : Nat → Nat) (t : Nat → Int) (L i : Nat) : Int := if B = 4 then ftT t L i 5 else if nnF R B rI bI t L (i + 1) ≠ 0 then nnF R B rI bI t L (i + 1) else bdZ t L (i + 2) (bdE t L i) (bdQ t L i)
def RBp (R B : Nat) (rI bI : Nat → Nat) (t : Nat → Int) (L i : Nat) (V : Mem) (z : Int) (V' : Mem) : Prop := (∀ c, c ≠ 1 → c ≠ 4 → c ≠ 5 → c ≠ 19 + 2 * B → c ≠ 20 + 2 * B → V' c = V c) ∧ (∀ j, j ≠ 8 → V' 4 j = V 4 j) ∧ V' 1 2 = (L : Nat) ∧ ((bdF R B rI bI t L i = 0 ∧ z = 1 ∧ V' 1 3 = (bpT t L (bdE t L i + 1) : Nat) ∧ V' 4 8 = V 4 8 ∧ V' 5 6 = ((B + 1 : Nat) : Int) ∧ (∀ j, j ≠ 6 → V' 5 j = V 5 j) ∧ V' (19 + 2 * B) 1 = wT 32 t L (i + 1) ∧ V' (19 + 2 * B) 2 = (bdQ t L i : Nat) ∧ V' (19 + 2 * B) 3 = (B : Nat) ∧ ∀ p, p < bdQ t L i → V' (20 + 2 * B) p = nT t L (i + 2 + p)) ∨ (bdF R B rI bI t L i ≠ 0 ∧ z = 0 ∧ V' 4 8 = bdF R B rI bI t L i))
section CBD
variable {K : KK} {d : Nat} {V : Mem} {t : Nat → Int} {L i R B : Nat} {rI bI : Nat → Nat}
theorem c_isWhole {a n : Nat} (h0 : IsBraid a) (hn : V a 2 = (n : Nat)) (h10 : n ≤ 10) : Pu K d mX0_isWhole [vR a] V (if ∀ s, s < n → V (a + 1) s < (n : Int) then 1 else 0) := by
  refine sX0_isWhole a h0 ?_
  have wqA : ∀ k, k ≤ n → (∀ s, s < k → V (a + 1) s < (n : Int)) → Wf K d mX0_isWhole 2 [some (vR a), some (vI (k : Int))] [] V (fun r V' => ∃ z, r = some (vI z) ∧ z = (if ∀ s, s < n → V (a + 1) s < (n : Int) then 1 else 0) ∧ V' = V) := by
    refine up_ind ?_ ?_
    · intro hs
      refine sX0_isWhole_2 a _ h0 ?_
      rw [hn, if_pos hs]
      exact ⟨fun _ => ⟨_, rfl, rfl, rfl⟩, fun c => absurd (Int.le_refl _) c⟩
    · intro k hk ih hs
      refine sX0_isWhole_2 a _ h0 ?_
      rw [hn, tn, w32_s (i := k) (by omega)]
      refine ⟨fun c => by omega, fun _ => ⟨⟨by omega, by omega⟩, fun c => ih (fun s q => ?_), fun c => ⟨0, rfl, ?_, rfl⟩⟩⟩
      · by_cases e : s = k
        · rw [e]; exact c
        · exact hs s (by omega)
      · rw [if_neg (fun q => c (q k hk))]
  exact wqA 0 (Nat.zero_le _) (fun s hs => by omega)
theorem c_readBraid (hS : ∀ e, TSg K (d + 1 + e)) (hE : TE V t L) (hN : XN V t L R B rI bI) (hX : XA V t L i) : Mi K (d + 4) mX5_readBraid [vR 4, vR 1] V (RBp R B rI bI t L i V) := by
  have h56 := hN.2.1
  have hB := hN.2.2.2.1
  refine sX5_readBraid ?_
  rw [h56]
  refine ⟨fun c4 => ?_, fun c4 => ?_⟩
  · have cB : ¬ B = 4 := by omega
    refine (c_readNewName (d := d) (hS 0) hE hN hX.1 hX.2.1).use ?_
    rintro z W ⟨w1, w4, w2, w3⟩
    rcases w3 with ⟨k1, k2, k3⟩ | ⟨k1, k2, k3⟩
    · rw [k2]
      refine ⟨fun _ => ?_, fun q => absurd q (by decide)⟩
      have w56 : W 5 6 = (B : Nat) := by rw [w1 5 (by decide) (by decide)]; exact h56
      have g2 : gT t L (i + 1) = 2 := by
        by_cases c : nmT t L (i + 1) = true
        · exact (of_decide_eq_true c).1
        · unfold nnF at k1
          rw [if_neg c] at k1
          exact absurd k1 (ft_nz (by omega))
      have hbr : IsBraid (19 + 2 * B) := by
        have := is5.braid (i := (B : Int)) ⟨by omega, by omega⟩
        rw [tn] at this
        exact this
      have bad : ∀ (X : Mem) (F : Int), (∀ c, c ≠ 1 → c ≠ 4 → c ≠ 5 → c ≠ 19 + 2 * B → c ≠ 20 + 2 * B → X c = V c) → (∀ j, j ≠ 8 → X 4 j = V 4 j) → X 1 2 = (L : Nat) → bdF R B rI bI t L i = F → F ≠ 0 → ∃ z, some (vI 0) = some (vI z) ∧ RBp R B rI bI t L i V z (upm X 4 8 F) := fun X F q1 q2 q3 q4 q5 => ⟨0, rfl, fun c p1 p2 p3 p4 p5 => by rw [upm_off c p2]; exact q1 c p1 p2 p3 p4 p5, fun j p => by rw [upm_k p]; exact q2 j p, by rw [upm_off 1 (by decide)]; exact q3, Or.inr ⟨by rw [q4]; exact q5, rfl, by rw [upm_s, q4]⟩⟩
      have f2 : bdF R B rI bI t L i = bdZ t L (i + 2) (bdE t L i) (bdQ t L i) := by unfold bdF; rw [if_neg cB, if_neg (fun h => h k1)]
      rw [upm_a (b := 5) (by omega), w56, tn, w2.2.2.2.2.2.2 g2]
      refine ⟨⟨by omega, by omega⟩, ?_⟩
      -- the strands
      have key : ∀ j, j ≤ 10 → ((j < 10) → (∀ k, k < j + 1 → bdG t L (i + 2) k) → ∀ T : Mem, (∀ c, c ≠ 1 → c ≠ 4 → c ≠ 19 + 2 * B → c ≠ 20 + 2 * B → T c = V c) → (∀ j, j ≠ 8 → T 4 j = V 4 j) → T 4 8 = V 4 8 → T 1 2 = (L : Nat) → T 1 3 = (bpT t L (i + 2 + (j + 1)) : Nat) → T (19 + 2 * B) 1 = wT 32 t L (i + 1) → T (19 + 2 * B) 3 = (B : Nat) → T (19 + 2 * B) 2 = ((j + 1 : Nat) : Int) → (∀ p, p < j + 1 → T (20 + 2 * B) p = nT t L (i + 2 + p)) → Wf K (d + 4) mX5_readBraid 70 [some (vR 4), some (vR 1), some (vR (19 + 2 * B)), some (vI ((j + 1 : Nat) : Int))] [] T (fun r V' => ∃ z, r = some (vI z) ∧ RBp R B rI bI t L i V z V')) → (∀ k, k < j → bdG t L (i + 2) k) → ∀ T : Mem, (∀ c, c ≠ 1 → c ≠ 4 → c ≠ 19 + 2 * B → c ≠ 20 + 2 * B → T c = V c) → (∀ j, j ≠ 8 → T 4 j = V 4 j) → T 4 8 = V 4 8 → T 1 2 = (L : Nat) → T 1 3 = (bpT t L (i + 2 + j) : Nat) → T (19 + 2 * B) 1 = wT 32 t L (i + 1) → T (19 + 2 * B) 3 = (B : Nat) → T (19 + 2 * B) 2 = (j : Nat) → (∀ p, p < j → T (20 + 2 * B) p = nT t L (i + 2 + p)) → Wf K (d + 4) mX5_readBraid 70 [some (vR 4), some (vR 1), some (vR (19 + 2 * B)), some (vI (j : Int))] [] T (fun r V' => ∃ z, r = some (vI z) ∧ RBp R B rI bI t L i V z V') := by
        intro j hj nxt hg T t1 t2 t3 t4 t5 t6 t7 t8 t9
        have hET : TE T t L := hE.congr (t1 2 (by decide) (by decide) (by omega) (by omega)) (t1 3 (by decide) (by decide) (by omega) (by omega))
        refine sX5_readBraid_70 _ _ hbr ⟨fun c => by omega, fun _ => (c_adv (d := d + 1) (hS 1) hET t4 t5).imp ?_⟩
        rintro r A ⟨a0, a1, a2⟩
        have hEA : TE A t L := hET.congr (a1 2 (by decide)) (a1 3 (by decide))
        have af : ∀ c, c ≠ 1 → c ≠ 4 → c ≠ 19 + 2 * B → c ≠ 20 + 2 * B → A c = V c := fun c p1 p2 p3 p4 => by rw [a1 c p1]; exact t1 c p1 p2 p3 p4
        have af' : ∀ c, c ≠ 1 → c ≠ 4 → c ≠ 5 → c ≠ 19 + 2 * B → c ≠ 20 + 2 * B → A c = V c := fun c p1 p2 _ p4 p5 => af c p1 p2 p4 p5
        have a4 : ∀ j, j ≠ 8 → A 4 j = V 4 j := fun j p => by rw [a1 4 (by decide)]; exact t2 j p
        have a48 : A 4 8 = V 4 8 := by rw [a1 4 (by decide)]; exact t3
        have ar : A (19 + 2 * B) = T (19 + 2 * B) := a1 _ (by omega)
        have an : A (20 + 2 * B) = T (20 + 2 * B) := a1 _ (by omega)
        have a2j : A (19 + 2 * B) 2 = (j : Nat) := by rw [ar]; exact t8
        have stop : ¬ bdG t L (i + 2) j → bdQ t L i = j ∧ bdE t L i = i + 2 + j := fun q => by
          have e : bdQ t L i = j := bq_un hj 10 0 rfl (Nat.zero_le _) (fun k _ hk => hg k hk) (Or.inr q)
          exact ⟨e, by unfold bdE; rw [e]⟩
        have onw : ¬ (0 < j ∧ cT t L (i + 2 + j) = 59) → Wf K (d + 4) mX5_readBraid 131 [some (vR 4), some (vR 1), some (vR (19 + 2 * B)), some (vI (j : Int))] [] A (fun r V' => ∃ z, r = some (vI z) ∧ RBp R B rI bI t L i V z V') := by
          intro no
          have gA := a2.2.2.1
          refine sX5_readBraid_131 _ _ hbr ⟨fun c => ?_, fun c => ?_⟩
          · have g3 : gT t L (i + 2 + j) = 3 := by omega
            rw [a2.2.2.2.2.2.1 g3]
            refine (c_strandAt (d := d + 3) hbr a2j hj _).use ?_
            rintro z A' ⟨z1, z2⟩
            subst z2
            rw [show 19 + 2 * B + 1 = 20 + 2 * B by omega] at z1
            rw [a2.2.2.2.2.2.1 g3, ftX hEA a2 (by omega), ftX hEA a2 (by omega)]
            refine ⟨fun q => ⟨fun q9 => sX0_addStrand _ _ hbr ?_, fun q9 => ?_⟩, fun q => ?_⟩
            · have new : ∀ k, k < j → nT t L (i + 2 + k) ≠ nT t L (i + 2 + j) := fun k hk x => by
                rcases z1 with ⟨_, y⟩ | ⟨s, y, _⟩
                · refine y k hk ?_
                  rw [an, t9 k hk]
                  exact x
                · omega
              have good : bdG t L (i + 2) j := ⟨g3, by omega, new⟩
              have hj10 : j < 10 := by
                rcases Nat.lt_or_ge j 10 with x | x
                · exact x
                · have e : j = 10 := by omega
                  subst e
                  exact absurd good (bd_ten hg)
              rw [upm_a (b := 19 + 2 * B) (by omega), a2j, tn, w32_s (i := j) (by omega), show 19 + 2 * B + 1 = 20 + 2 * B by omega]
              refine ⟨fun x => by omega, fun _ => ⟨fun x => ⟨⟨by omega, by omega⟩, 1, rfl, fun _ => ?_, fun y => absurd y (by decide)⟩, fun x => by omega⟩⟩
              refine nxt hj10 (fun k hk => ?_) _ (fun c p1 p2 p3 p4 => by rw [upm_off c p3, upm_off c p4]; exact af c p1 p2 p3 p4) (fun j p => by rw [upm_off 4 (by omega), upm_off 4 (by omega)]; exact a4 j p) (by rw [upm_off 4 (by omega), upm_off 4 (by omega)]; exact a48) (by rw [upm_off 1 (by omega), upm_off 1 (by omega)]; exact a2.1) (by rw [upm_off 1 (by omega), upm_off 1 (by omega)]; exact a2.2.1) (by rw [upm_k (by decide), upm_off (19 + 2 * B) (by omega), ar]; exact t6) (by rw [upm_k (by decide), upm_off (19 + 2 * B) (by omega), ar]; exact t7) (upm_s _ _ _ _) (fun p hp => ?_)
              · by_cases e : k = j
                · rw [e]; exact good
                · exact hg k (by omega)
              · rw [upm_off (20 + 2 * B) (by omega)]
                by_cases e : p = j
                · rw [e, upm_s]
                · rw [upm_k e, an]; exact t9 p (by omega)
            · obtain ⟨s1, s2⟩ := stop (fun x => q9 (by have := x.2.1; omega))
              exact bad A' _ af' a4 a2.1 (by rw [f2, s1, s2]; unfold bdZ; rw [if_neg no, if_pos g3, if_neg (by omega)]) (ft_nz (by omega))
            · obtain ⟨s, y1, y2, y3, y4⟩ := z1.at q
              rw [an, t9 s y2] at y3
              obtain ⟨s1, s2⟩ := stop (fun x => x.2.2 s y2 y3)
              have y9 := (hg s y2).2.1
              exact bad A' _ af' a4 a2.1 (by rw [f2, s1, s2]; unfold bdZ; rw [if_neg no, if_pos g3, if_pos (by rw [← y3]; exact y9)]) (ft_nz (by omega))
          · have g3 : ¬ gT t L (i + 2 + j) = 3 := by omega
            obtain ⟨s1, s2⟩ := stop (fun x => g3 x.1)
            rw [ftX hEA a2 (by omega)]
            exact bad A _ af' a4 a2.1 (by rw [f2, s1, s2]; unfold bdZ; rw [if_neg no, if_neg g3]) (ft_nz (by omega))
        rw [a2.2.2.2.2.1, a2j]
        refine ⟨a0, fun c => onw (fun x => c x.2), fun c => ⟨fun c0 => onw (fun x => by omega), fun c0 => ?_⟩⟩
        have g4 : ¬ gT t L (i + 2 + j) = 3 := fun x => by
          have := (tk_sign (t := t) (L := L) (p := psT t L (i + 2 + j)) (s := 59) (by decide)).1 c
          have x' : tkG t L (psT t L (i + 2 + j)) = 3 := x
          omega
        obtain ⟨s1, s2⟩ := stop (fun x => g4 x.1)
        have a56 : A 5 6 = (B : Nat) := by rw [af 5 (by decide) (by decide) (by omega) (by omega)]; exact h56
        rw [a56, w32_s (i := B) (by omega)]
        have yes : 0 < j ∧ cT t L (i + 2 + j) = 59 := ⟨by omega, c⟩
        have hA5 : TE (upm A 5 6 ((B + 1 : Nat) : Int)) t L := hEA.congr (upm_off 2 (by decide)) (upm_off 3 (by decide))
        have xA5 : XA (upm A 5 6 ((B + 1 : Nat) : Int)) t L (i + 2 + j) := a2.congr (upm_off 1 (by decide))
        refine (c_isWhole (d := d + 3) hbr (show (upm A 5 6 ((B + 1 : Nat) : Int)) (19 + 2 * B) 2 = (j : Nat) by rw [upm_off (19 + 2 * B) (by omega)]; exact a2j) hj).use ?_
        have eW : (∀ s, s < j → (upm A 5 6 ((B + 1 : Nat) : Int)) (19 + 2 * B + 1) s < (j : Int)) ↔ bdW t L (i + 2) j = true := by
          rw [upm_off (19 + 2 * B + 1) (by omega), show 19 + 2 * B + 1 = 20 + 2 * B by omega, an]
          exact ⟨fun h => decide_eq_true (fun s hs => by rw [← t9 s hs]; exact h s hs), fun h s hs => by rw [t9 s hs]; exact of_decide_eq_true h s hs⟩
        by_cases cw : bdW t L (i + 2) j = true
        · rw [if_pos (eW.2 cw)]
          refine ⟨fun _ => sX5_readBraid_125 ⟨1, rfl, fun c p1 p2 p3 p4 p5 => by rw [upm_off c p3]; exact af c p1 p2 p4 p5, fun j p => by rw [upm_off 4 (by decide)]; exact a4 j p, by rw [upm_off 1 (by decide)]; exact a2.1, Or.inl ⟨?_, rfl, by rw [upm_off 1 (by decide), s2]; exact a2.2.1, by rw [upm_off 4 (by decide)]; exact a48, upm_s _ _ _ _, fun j p => by rw [upm_k p, af 5 (by decide) (by decide) (by omega) (by omega)], by rw [upm_off (19 + 2 * B) (by omega), ar]; exact t6, by rw [upm_off (19 + 2 * B) (by omega), s1]; exact a2j, by rw [upm_off (19 + 2 * B) (by omega), ar]; exact t7, fun p hp => ?_⟩⟩, fun q => absurd q (by decide)⟩
          · rw [f2, s1, s2]; unfold bdZ; rw [if_pos yes, if_pos cw]
          · rw [s1] at hp
            rw [upm_off (20 + 2 * B) (by omega), an]
            exact t9 p hp
        · rw [if_neg (fun x => cw (eW.1 x)), ftX hA5 xA5 (by omega)]
          refine ⟨fun q => absurd rfl q, fun _ => bad _ _ (fun c p1 p2 p3 p4 p5 => by rw [upm_off c p3]; exact af c p1 p2 p4 p5) (fun j p => by rw [upm_off 4 (by decide)]; exact a4 j p) xA5.1 ?_ (ft_nz (by omega))⟩
          rw [f2, s1, s2]; unfold bdZ; rw [if_pos yes, if_neg cw]
      have wqA := up_ind (key 10 (Nat.le_refl _) (fun x => by omega)) (fun j hj ih => key j (by omega) (fun _ => ih))
      refine wqA 0 (by omega) (fun k hk => by omega) _ (fun c p1 p2 p3 p4 => by rw [upm_off c p3, upm_off c p3, upm_off c p3]; exact w1 c p1 p2) (fun j p => by rw [upm_off 4 (by omega), upm_off 4 (by omega), upm_off 4 (by omega)]; exact w4 j p) (by rw [upm_off 4 (by omega), upm_off 4 (by omega), upm_off 4 (by omega)]; exact k3) (by rw [upm_off 1 (by omega), upm_off 1 (by omega), upm_off 1 (by omega)]; exact w2.1) (by rw [upm_off 1 (by omega), upm_off 1 (by omega), upm_off 1 (by omega)]; exact w2.2.1) (by rw [upm_k (by decide), upm_k (by decide), upm_s]) (by rw [upm_k (by decide), upm_s]) (upm_s _ _ _ _) (fun p hp => by omega)
    · rw [k2]
      have f1 : bdF R B rI bI t L i = nnF R B rI bI t L (i + 1) := by unfold bdF; rw [if_neg cB, if_pos k1]
      exact ⟨fun q => absurd rfl q, fun _ => ⟨0, rfl, fun c p1 p2 _ _ _ => w1 c p1 p2, w4, w2.1, Or.inr ⟨by rw [f1]; exact k1, rfl, by rw [f1]; exact k3⟩⟩⟩
  · have cB : B = 4 := by omega
    have f0 : bdF R B rI bI t L i = ftT t L i 5 := if_pos cB
    rw [ftX hE hX (by omega)]
    exact ⟨0, rfl, fun c p1 p2 _ _ _ => upm_off c p2, fun j p => upm_k p, by rw [upm_off 1 (by decide)]; exact hX.1, Or.inr ⟨by rw [f0]; exact ft_nz (by omega), rfl, by rw [f0, upm_s]⟩⟩
end CBD
