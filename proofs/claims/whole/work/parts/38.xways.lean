/-! ===== ways: both sides ===== -/
theorem isWay.un {F : Nat → Nat → Prop} {lo hi : Nat} {E E2 W W2 : Nat → Int} (he : ∀ q, lo ≤ q → q < hi → E q = E2 q) (h : isWay F lo hi E W) (h2 : isWay F lo hi E2 W2) : ∀ p, lo ≤ p → p < hi → W p = W2 p := by
  intro p
  induction p using Nat.strongRecOn with
  | ind p ih =>
    intro a b
    rw [h p a b, h2 p a b, he p a b]
    exact wy_congr (fun q q1 q2 => he q q1 (by omega)) (fun q q1 q2 => ih q (by omega) q1 (by omega))
theorem isWay.ex (F : Nat → Nat → Prop) (E : Nat → Int) (lo : Nat) : ∀ n, ∃ W, isWay F lo (lo + n) E W
  | 0 => ⟨fun _ => 0, fun p a b => by omega⟩
  | n + 1 => by
    obtain ⟨W, hW⟩ := isWay.ex F E lo n
    exact ⟨fun q => if q = lo + n then wy F (lo + n) E W lo (lo + n - lo) (E (lo + n) - 1) else W q, hW.push (fun q _ => rfl) (fun q hq => if_neg (by omega)) (if_pos rfl)⟩
theorem way_ex (F : Nat → Nat → Prop) (lo hi : Nat) : ∃ W, isWay F lo hi (enf F lo hi) W := by
  rcases Nat.le_total lo hi with h | h
  · have := isWay.ex F (enf F lo hi) lo (hi - lo)
    rw [show lo + (hi - lo) = hi by omega] at this
    exact this
  · exact ⟨fun _ => 0, fun p a b => by omega⟩
noncomputable def wyf (F : Nat → Nat → Prop) (lo hi : Nat) : Nat → Int := Classical.choose (way_ex F lo hi)
theorem wyf_ok (F : Nat → Nat → Prop) (lo hi : Nat) : isWay F lo hi (enf F lo hi) (wyf F lo hi) := Classical.choose_spec (way_ex F lo hi)
/-- in how many ways -/
noncomputable def nw (F : Nat → Nat → Prop) (lo hi : Nat) : Int := if lo = hi then 1 else sm (fun p => enf F lo hi p = lw F lo hi) (wyf F lo hi) lo (hi - lo)
theorem nw_eq {F : Nat → Nat → Prop} {lo hi : Nat} {E W : Nat → Int} (hE : isEnd F lo hi E) (hW : isWay F lo hi E W) (h : lo < hi) : sm (fun p => E p = lw F lo hi) W lo (hi - lo) = nw F lo hi := by
  unfold nw
  rw [if_neg (by omega)]
  refine sm_congr _ (fun q a b => ?_) (fun q a b _ => ?_)
  · rw [enf_eq hE a (by omega)]
  · exact hW.un (fun q a b => enf_eq hE a b) (wyf_ok F lo hi) q a (by omega)
theorem sm_shift {P : Nat → Prop} {f : Nat → Int} {lo k : Nat} (h : ∀ q, lo ≤ q → q < lo + k → ¬ P q) : ∀ j, sm P f lo (k + j) = sm P f (lo + k) j
  | 0 => sm_0 k h
  | j + 1 => by
    rw [show k + (j + 1) = (k + j) + 1 by omega]
    by_cases c : P (lo + (k + j))
    · rw [sm_t c, sm_t (show P (lo + k + j) by rw [Nat.add_assoc]; exact c), sm_shift h j, Nat.add_assoc]
    · rw [sm_f c, sm_f (show ¬ P (lo + k + j) by rw [Nat.add_assoc]; exact c), sm_shift h j]
theorem sm_front_t {P : Nat → Prop} {f : Nat → Int} {lo : Nat} (h : P lo) : ∀ n, sm P f lo (n + 1) = f lo + sm P f (lo + 1) n
  | 0 => by rw [sm_t (show P (lo + 0) from h)]; show 0 + f lo = f lo + 0; omega
  | n + 1 => by
    by_cases c : P (lo + (n + 1))
    · rw [sm_t c, sm_t (show P (lo + 1 + n) by rw [show lo + 1 + n = lo + (n + 1) by omega]; exact c), sm_front_t h n, show lo + 1 + n = lo + (n + 1) by omega]; omega
    · rw [sm_f c, sm_f (show ¬ P (lo + 1 + n) by rw [show lo + 1 + n = lo + (n + 1) by omega]; exact c), sm_front_t h n]
theorem sm_front_f {P : Nat → Prop} {f : Nat → Int} {lo : Nat} (h : ¬ P lo) (n : Nat) : sm P f lo (n + 1) = sm P f (lo + 1) n := by
  have := sm_shift (P := P) (f := f) (lo := lo) (k := 1) (fun q a b => by rw [show q = lo by omega]; exact h) n
  rw [Nat.add_comm] at this
  exact this
theorem pw_s (n : Nat) : (2 : Int) ^ (n + 1) = 2 ^ n + 2 ^ n := by rw [Int.pow_succ]; omega
theorem sm_ub {P : Nat → Prop} {f : Nat → Int} {lo h : Nat} : ∀ n, lo + n ≤ h → (∀ q, lo ≤ q → q < lo + n → 0 ≤ f q ∧ f q ≤ 2 ^ (h - 1 - q)) → 0 ≤ sm P f lo n ∧ sm P f lo n + 2 ^ (h - (lo + n)) ≤ 2 ^ (h - lo)
  | 0, _, _ => ⟨Int.le_refl 0, by show (0 : Int) + _ ≤ _; rw [Int.zero_add, Nat.add_zero]; exact Int.le_refl _⟩
  | n + 1, hn, hq => by
    have ih := sm_ub (P := P) n (by omega) (fun q a b => hq q a (by omega))
    have hf := hq (lo + n) (by omega) (by omega)
    rw [show h - 1 - (lo + n) = h - (lo + (n + 1)) by omega] at hf
    rw [show h - (lo + n) = (h - (lo + (n + 1))) + 1 by omega, pw_s] at ih
    by_cases c : P (lo + n)
    · rw [sm_t c]; omega
    · rw [sm_f c]
      have := pw_pos (h - (lo + (n + 1)))
      omega
section CWX
variable {K : KK} {d : Nat} {V : Mem} {P : Nat → Int × Int} {n R : Nat}
theorem c_waysOn {a hi p : Nat} (h0 : IsChains a) (hk : 0 ≤ V a 6 ∧ V a 6 ≤ 3) (he : V a 8 = hi) (h20 : hi ≤ 20) (hp : p < hi) (hB : isSta (Fc V a) p hi (V (a + 2))) (hO : ∀ q, p < q → q < hi → 0 ≤ V (a + 4) q ∧ V (a + 4) q ≤ 2 ^ (hi - 1 - q)) : Pu K (d + 2) mX1_waysOn [vR a, vI (p : Int)] V (if V (a + 2) p = 1 then 1 else sm (fun q => Fc V a q p ∧ V (a + 2) q = V (a + 2) p - 1) (V (a + 4)) (p + 1) (hi - (p + 1))) := by
  have bp := hB.ge (Nat.le_refl p) hp
  have bp2 := hB.le _ p rfl (Nat.le_refl p) hp
  refine sX1_waysOn a _ h0 ⟨⟨by omega, by omega⟩, ?_⟩
  rw [tn, w32_s (by omega)]
  refine ⟨fun h => ?_, fun h => ⟨_, rfl, by rw [if_pos h], rfl⟩⟩
  rw [if_neg h]
  have wqA : ∀ j, j ≤ hi → p + 1 ≤ j → Wf K (d + 2) mX1_waysOn 19 [some (vR a), some (vI (p : Int)), some (vJ (sm (fun q => Fc V a q p ∧ V (a + 2) q = V (a + 2) p - 1) (V (a + 4)) (p + 1) (j - (p + 1)))), none, some (vI (j : Int))] [] V (fun r V' => ∃ z, r = some (vI z) ∧ z = sm (fun q => Fc V a q p ∧ V (a + 2) q = V (a + 2) p - 1) (V (a + 4)) (p + 1) (hi - (p + 1)) ∧ V' = V) := by
    refine up_ind ?_ ?_
    · intro _
      have ub := sm_ub (P := fun q => Fc V a q p ∧ V (a + 2) q = V (a + 2) p - 1) (f := V (a + 4)) (lo := p + 1) (h := hi) (hi - (p + 1)) (by omega) (fun q a b => hO q (by omega) (by omega))
      have u2 := pw_20 (n := hi - (p + 1)) (by omega)
      have u3 := pw_pos (hi - (p + 1 + (hi - (p + 1))))
      refine sX1_waysOn_19 a _ _ _ h0 ⟨fun _ => ⟨_, rfl, ?_, rfl⟩, fun c => absurd (by rw [he]; exact Int.le_refl _) c⟩
      generalize sm (fun q => Fc V a q p ∧ V (a + 2) q = V (a + 2) p - 1) (V (a + 4)) (p + 1) (hi - (p + 1)) = s at *
      rw [show min s 2000000000 = s by omega, w32_id (by omega) (by omega)]
    · intro j hj ih hl
      have ub := sm_ub (P := fun q => Fc V a q p ∧ V (a + 2) q = V (a + 2) p - 1) (f := V (a + 4)) (lo := p + 1) (h := hi) (j + 1 - (p + 1)) (by omega) (fun q a b => hO q (by omega) (by omega))
      have u2 := pw_20 (n := hi - (p + 1)) (by omega)
      have u3 := pw_pos (hi - (p + 1 + (j + 1 - (p + 1))))
      have ej : j + 1 - (p + 1) = (j - (p + 1)) + 1 := by omega
      have ej2 : p + 1 + (j - (p + 1)) = j := by omega
      refine sX1_waysOn_19 a _ _ _ h0 ⟨fun c => absurd c (by rw [he]; omega), fun _ => ⟨⟨by omega, by omega⟩, ⟨by omega, by omega⟩, ?_⟩⟩
      rw [tn, tn, w32_s (by omega), w32_id (x := V (a + 2) p - 1) (by omega) (by omega)]
      have sk : ¬ (Fc V a j p ∧ V (a + 2) j = V (a + 2) p - 1) → Wf K (d + 2) mX1_waysOn 19 [some (vR a), some (vI (p : Int)), some (vJ (sm (fun q => Fc V a q p ∧ V (a + 2) q = V (a + 2) p - 1) (V (a + 4)) (p + 1) (j - (p + 1)))), none, some (vI ((j + 1 : Nat) : Int))] [] V (fun r V' => ∃ z, r = some (vI z) ∧ z = sm (fun q => Fc V a q p ∧ V (a + 2) q = V (a + 2) p - 1) (V (a + 4)) (p + 1) (hi - (p + 1)) ∧ V' = V) := by
        intro c
        have wqB := ih (by omega)
        rw [ej, sm_f (by rw [ej2]; exact c)] at wqB
        exact wqB
      refine ⟨fun c => sk (fun q => c q.2), fun c => (c_follows (d := d) h0 hk (p := j) (q := p) (by omega) (by omega)).use ⟨fun z => sk (fun q => ?_), fun z => ⟨⟨by omega, by omega⟩, ?_⟩⟩⟩
      · rw [if_pos q.1] at z
        cases z
      · have hf : Fc V a j p := Decidable.byContradiction (fun w => z (if_neg w))
        have wqB := ih (by omega)
        have e1 : sm (fun q => Fc V a q p ∧ V (a + 2) q = V (a + 2) p - 1) (V (a + 4)) (p + 1) (j + 1 - (p + 1)) = sm (fun q => Fc V a q p ∧ V (a + 2) q = V (a + 2) p - 1) (V (a + 4)) (p + 1) (j - (p + 1)) + V (a + 4) j := by
          rw [ej, sm_t (by rw [ej2]; exact ⟨hf, c⟩), ej2]
        rw [e1] at ub wqB
        rw [w64_id (by omega) (by omega)]
        exact wqB
  have := wqA (p + 1) (by omega) (Nat.le_refl _)
  rw [Nat.sub_self] at this
  exact this
theorem c_countWays {a lo hi : Nat} {L : Int} (h0 : IsChains a) (hk : 0 ≤ V a 6 ∧ V a 6 ≤ 3) (hs : V a 7 = lo) (he : V a 8 = hi) (hlh : lo ≤ hi) (h20 : hi ≤ 20) (hB : isSta (Fc V a) lo hi (V (a + 2))) (hL : V a 5 = L) : Mi K (d + 3) mX1_countWays [vR a] V (fun z V' => (∀ c, c ≠ a + 4 → V' c = V c) ∧ ∃ O, isOn (Fc V a) lo hi (V (a + 2)) O ∧ z = if L = 0 then 1 else sm (fun p => V (a + 2) p = L) O lo (hi - lo)) := by
  have oex : ∃ O, isOn (Fc V a) lo hi (V (a + 2)) O := by
    have wqC : ∀ k i, i + k = hi → ∃ O : Nat → Int, ∀ p, i ≤ p → p < hi → O p = if V (a + 2) p = 1 then 1 else sm (fun q => Fc V a q p ∧ V (a + 2) q = V (a + 2) p - 1) O (p + 1) (hi - (p + 1)) := by
      intro k
      induction k with
      | zero => intro i hi2; exact ⟨fun _ => 0, fun p a b => by omega⟩
      | succ k ih =>
        intro i hi2
        obtain ⟨O, hO⟩ := ih (i + 1) (by omega)
        have cg : ∀ x p, i ≤ p → sm (fun q => Fc V a q p ∧ V (a + 2) q = V (a + 2) p - 1) (fun q => if q = i then x else O q) (p + 1) (hi - (p + 1)) = sm (fun q => Fc V a q p ∧ V (a + 2) q = V (a + 2) p - 1) O (p + 1) (hi - (p + 1)) := fun x p hp => sm_congr _ (fun _ _ _ => Iff.rfl) (fun q q1 q2 _ => if_neg (by omega))
        refine ⟨fun q => if q = i then (if V (a + 2) i = 1 then 1 else sm (fun q => Fc V a q i ∧ V (a + 2) q = V (a + 2) i - 1) O (i + 1) (hi - (i + 1))) else O q, fun p h1 h2 => ?_⟩
        rw [cg _ p h1]
        by_cases c : p = i
        · subst c; exact if_pos rfl
        · show (if p = i then _ else O p) = _
          rw [if_neg c]; exact hO p (by omega) h2
    obtain ⟨O, hO⟩ := wqC (hi - lo) lo (by omega)
    refine ⟨O, fun p h1 h2 => ?_⟩
    rw [hO p h1 h2]
    have := sm_shift (P := fun q => p < q ∧ Fc V a q p ∧ V (a + 2) q = V (a + 2) p - 1) (f := O) (lo := lo) (k := p + 1 - lo) (fun q a b h => by have := h.1; omega) (hi - (p + 1))
    rw [show p + 1 - lo + (hi - (p + 1)) = hi - lo by omega, show lo + (p + 1 - lo) = p + 1 by omega] at this
    rw [this]
    congr 1
    exact sm_congr _ (fun q a b => ⟨fun h => ⟨by omega, h⟩, fun h => h.2⟩) (fun _ _ _ _ => rfl)
  obtain ⟨O, hO⟩ := oex
  have hO2 : ∀ p, lo ≤ p → p < hi → O p = if V (a + 2) p = 1 then 1 else sm (fun q => Fc V a q p ∧ V (a + 2) q = V (a + 2) p - 1) O (p + 1) (hi - (p + 1)) := fun p h1 h2 => by
    rw [hO p h1 h2]
    have := sm_shift (P := fun q => p < q ∧ Fc V a q p ∧ V (a + 2) q = V (a + 2) p - 1) (f := O) (lo := lo) (k := p + 1 - lo) (fun q a b h => by have := h.1; omega) (hi - (p + 1))
    rw [show p + 1 - lo + (hi - (p + 1)) = hi - lo by omega, show lo + (p + 1 - lo) = p + 1 by omega] at this
    rw [this]
    congr 1
    exact sm_congr _ (fun q a b => ⟨fun h => h.2, fun h => ⟨by omega, h⟩⟩) (fun _ _ _ _ => rfl)
  have hOb : ∀ k p, p + k + 1 = hi → lo ≤ p → 0 ≤ O p ∧ O p ≤ 2 ^ (hi - 1 - p) := by
    intro k
    induction k using Nat.strongRecOn with
    | ind k ih =>
      intro p hp h1
      have ub := sm_ub (P := fun q => Fc V a q p ∧ V (a + 2) q = V (a + 2) p - 1) (f := O) (lo := p + 1) (h := hi) (hi - (p + 1)) (by omega) (fun q a b => ih (hi - 1 - q) (by omega) q (by omega) (by omega))
      have u1 := pw_pos (hi - (p + 1 + (hi - (p + 1))))
      have u2 := pw_pos (hi - 1 - p)
      rw [hO2 p h1 (by omega), show hi - 1 - p = hi - (p + 1) by omega]
      rw [show hi - 1 - p = hi - (p + 1) by omega] at u2
      split <;> omega
  have hOb2 : ∀ q, lo ≤ q → q < hi → 0 ≤ O q ∧ O q ≤ 2 ^ (hi - 1 - q) := fun q h1 h2 => hOb (hi - 1 - q) q (by omega) h1
  refine sX1_countWays a h0 ?_
  rw [hL, he, w32_id (by omega) (by omega)]
  refine ⟨fun h => ?_, fun h => ⟨_, rfl, fun _ _ => rfl, O, hO, by rw [if_pos h]⟩⟩
  have wqA : ∀ k, ∀ i, i = lo + k → i ≤ hi → ∀ V' : Mem, (∀ c, c ≠ a + 4 → V' c = V c) → (∀ q, i ≤ q → q < hi → V' (a + 4) q = O q) → Wf K (d + 3) mX1_countWays 18 [some (vR a), some (vJ (sm (fun p => V (a + 2) p = L) O i (hi - i))), none, some (vI ((i : Int) - 1))] [] V' (fun r V' => ∃ z, r = some (vI z) ∧ ((∀ c, c ≠ a + 4 → V' c = V c) ∧ ∃ O, isOn (Fc V a) lo hi (V (a + 2)) O ∧ z = if L = 0 then 1 else sm (fun p => V (a + 2) p = L) O lo (hi - lo))) := by
    refine dn_ind ?_ ?_
    · intro i hi0 _ V' hV hE
      have hil : i = lo := by omega
      subst hil
      have ub := sm_ub (P := fun p => V (a + 2) p = L) (f := O) (lo := i) (h := hi) (hi - i) (by omega) (fun q a b => hOb2 q a (by omega))
      have u1 := pw_pos (hi - (i + (hi - i)))
      have u2 := pw_20 (n := hi - i) (by omega)
      refine sX1_countWays_18 a _ _ h0 ⟨fun _ => ⟨_, rfl, hV, O, hO, ?_⟩, fun c => absurd (by rw [hV a (by omega), hs]; omega) c⟩
      rw [if_neg h]
      generalize sm (fun p => V (a + 2) p = L) O i (hi - i) = s at *
      rw [show min s 2000000000 = s by omega, w32_id (by omega) (by omega)]
    · intro k ih i hik hih V' hV hE
      obtain ⟨p, rfl⟩ : ∃ p, i = p + 1 := ⟨lo + k, by omega⟩
      have e1 : ((p + 1 : Nat) : Int) - 1 = (p : Int) := by omega
      rw [e1]
      have gF : Fc V' a = Fc V a := by funext x y; unfold Fc; rw [hV a (by omega), hV (a + 1) (by omega)]
      refine sX1_countWays_18 a _ _ h0 ⟨fun c => absurd c (by rw [hV a (by omega), hs]; omega), fun _ => ?_⟩
      refine (c_waysOn (d := d) (V := V') (hi := hi) (p := p) h0 (by rw [hV a (by omega)]; exact hk) (by rw [hV a (by omega)]; exact he) h20 (by omega) (by rw [gF, hV (a + 2) (by omega)]; exact fun q h1 h2 => hB q (by omega) h2) (fun q h1 h2 => by rw [hE q (by omega) h2]; exact hOb2 q (by omega) h2)).use ?_
      rw [gF, hV (a + 2) (by omega)]
      have eO : (if V (a + 2) p = 1 then 1 else sm (fun q => Fc V a q p ∧ V (a + 2) q = V (a + 2) p - 1) (V' (a + 4)) (p + 1) (hi - (p + 1))) = O p := by
        rw [hO2 p (by omega) (by omega)]
        congr 1
        exact sm_congr _ (fun _ _ _ => Iff.rfl) (fun q q1 q2 _ => hE q q1 (by omega))
      rw [eO, tn, upm_a (b := a + 2) (by omega), upm_a (b := a) (by omega), upm_s, hV (a + 2) (by omega), hV a (by omega), hL, w32_id (x := (p : Int) + (-1)) (by omega) (by omega)]
      have ub := sm_ub (P := fun p => V (a + 2) p = L) (f := O) (lo := p + 1) (h := hi) (hi - (p + 1)) (by omega) (fun q a b => hOb2 q (by omega) (by omega))
      have u2 := pw_20 (n := hi - (p + 1)) (by omega)
      have u1 := pw_pos (hi - (p + 1 + (hi - (p + 1))))
      have ob := hOb2 p (by omega) (by omega)
      have ob2 := pw_20 (n := hi - 1 - p) (by omega)
      have wqB := ih p (by omega) (by omega) (upm V' (a + 4) p (O p)) (fun c hc => (upm_off c hc).trans (hV c hc)) (fun q h1 h2 => by
        by_cases c : q = p
        · subst c; rw [upm_s]
        · rw [upm_k c]; exact hE q (by omega) h2)
      rw [show hi - p = (hi - (p + 1)) + 1 by omega] at wqB
      refine ⟨⟨by omega, by omega⟩, ⟨by omega, by omega⟩, fun c => ?_, fun c => ⟨⟨by omega, by omega⟩, ?_⟩⟩
      · rw [sm_front_f c] at wqB
        exact wqB
      · rw [sm_front_t (P := fun p => V (a + 2) p = L) c, Int.add_comm] at wqB
        rw [w64_id (by omega) (by omega)]
        exact wqB
  have := wqA (hi - lo) hi (by omega) (Nat.le_refl _) V (fun _ _ => rfl) (fun q h1 h2 => by omega)
  rw [Nat.sub_self] at this
  exact this
theorem isWay.congr {F F2 : Nat → Nat → Prop} {lo hi : Nat} {E W : Nat → Int} (h : isWay F lo hi E W) (hF : ∀ p q, lo ≤ q → q < p → p < hi → (F p q ↔ F2 p q)) : isWay F2 lo hi E W := fun p a b => by
  rw [h p a b]
  unfold wy
  rw [sm_congr (p - lo) (P2 := fun q => F2 p q ∧ E q = E p - 1) (f2 := W) (fun q q1 q2 => by rw [hF p q q1 (by omega) b]) (fun _ _ _ _ => rfl)]
theorem nw_congr {F F2 : Nat → Nat → Prop} {lo hi : Nat} (hlh : lo ≤ hi) (hF : ∀ p q, lo ≤ q → q < p → p < hi → (F p q ↔ F2 p q)) : nw F lo hi = nw F2 lo hi := by
  rcases Nat.lt_or_ge lo hi with c | c
  · rw [← nw_eq (enf_ok F lo hi) (wyf_ok F lo hi) c, ← nw_eq ((enf_ok F lo hi).congr hF) ((wyf_ok F lo hi).congr hF) c, lw_congr hF]
  · have e : lo = hi := by omega
    unfold nw
    rw [if_pos e, if_pos e]
theorem lw_pos {F : Nat → Nat → Prop} {lo hi : Nat} (h : lo < hi) : 1 ≤ lw F lo hi := by
  obtain ⟨E, h1, h2⟩ := Classical.choose_spec (lw_ex F lo hi)
  have e : lw F lo hi = Classical.choose (lw_ex F lo hi) := rfl
  rw [← e] at h2
  have := h2.2.1 lo (Nat.le_refl _) h trivial
  have := h1.ge (Nat.le_refl _) h
  omega
theorem lw_ub {F : Nat → Nat → Prop} {lo hi : Nat} {E : Nat → Int} (hE : isEnd F lo hi E) {p : Nat} (h1 : lo ≤ p) (h2 : p < hi) : E p ≤ lw F lo hi := by
  obtain ⟨E2, g1, g2⟩ := Classical.choose_spec (lw_ex F lo hi)
  have e : lw F lo hi = Classical.choose (lw_ex F lo hi) := rfl
  rw [← e] at g2
  rw [hE.un g1 p h1 h2]
  exact g2.2.1 p h1 h2 trivial
theorem c_countWays2 {a lo hi : Nat} (h0 : IsChains a) (hk : 0 ≤ V a 6 ∧ V a 6 ≤ 3) (hs : V a 7 = lo) (he : V a 8 = hi) (hlh : lo ≤ hi) (h20 : hi ≤ 20) (hE : isEnd (Fc V a) lo hi (V (a + 3))) (hB : isSta (Fc V a) lo hi (V (a + 2))) (hL : V a 5 = lw (Fc V a) lo hi) : Mi K (d + 3) mX1_countWays [vR a] V (fun z V' => (∀ c, c ≠ a + 4 → V' c = V c) ∧ z = nw (Fc V a) lo hi) := by
  refine (c_countWays (d := d) h0 hk hs he hlh h20 hB hL).use (fun z V' ⟨h1, O, h2, h3⟩ => ⟨h1, ?_⟩)
  rcases Nat.lt_or_ge lo hi with c | c
  · have hp := lw_pos (F := Fc V a) c
    rw [h3, if_neg (by omega), ← nw_eq (enf_ok (Fc V a) lo hi) (wyf_ok (Fc V a) lo hi) c]
    exact (ways_eq (enf_ok _ lo hi) hB (wyf_ok _ lo hi) h2 (fun p a b => lw_ub (enf_ok _ lo hi) a b) hlh hp).symm
  · rw [h3, lw_nil c, if_pos rfl]
    unfold nw
    rw [if_pos (by omega)]
theorem m_waysOf {lo hi : Nat} (hk : 0 ≤ V 369 22 ∧ V 369 22 ≤ 3) (hlh : lo ≤ hi) (h20 : hi ≤ 20) (hL : V 384 (21 * lo + hi) = lw (Fm V) lo hi) : Mi K (d + 2) mX12_waysOf [vR 369, vI (lo : Int), vI (hi : Int)] V (fun z V' => (∀ c, c ≠ 385 → c ≠ 387 → V' c = V c) ∧ z = nw (Fm V) lo hi) := by
  refine sX12_waysOf lo hi ((m_findsEnding (d := d) hk hlh h20).use (fun V1 ⟨k1, k2, k3⟩ => ?_))
  have hL1 : V1 384 (21 * lo + hi) = lw (Fm V) lo hi := by rw [k1 384 (by omega) (by omega)]; exact hL
  have ub : ∀ j, j ≤ hi → 0 ≤ sm (fun p => V1 385 p = lw (Fm V) lo hi) (V1 387) lo (j - lo) ∧ sm (fun p => V1 385 p = lw (Fm V) lo hi) (V1 387) lo (j - lo) ≤ 1048576 := fun j hj => by
    have h1 := sm_le (P := fun p => V1 385 p = lw (Fm V) lo hi) (f := V1 387) (lo := lo) (j - lo) (fun k hk _ => k3.le k (by omega))
    have h2 := pw_20 (n := j - lo) (by omega)
    omega
  have wqA : ∀ j, j ≤ hi → lo ≤ j → ∀ s0 : Int, 0 ≤ s0 ∧ s0 ≤ 1 → Wf K (d + 2) mX12_waysOf 20 [some (vR 369), some (vI (lo : Int)), some (vI (hi : Int)), some (vJ (s0 + sm (fun p => V1 385 p = lw (Fm V) lo hi) (V1 387) lo (j - lo))), none, some (vI (j : Int))] [] V1 (fun r V' => ∃ z, r = some (vI z) ∧ ((∀ c, c ≠ 385 → c ≠ 387 → V' c = V c) ∧ z = s0 + sm (fun p => V1 385 p = lw (Fm V) lo hi) (V1 387) lo (hi - lo))) := by
    refine up_ind ?_ ?_
    · intro _ s0 hs
      have u := ub hi (Nat.le_refl _)
      refine sX12_waysOf_20 _ _ _ _ ⟨fun _ => ⟨fun _ => ⟨_, rfl, k1, w32_id (by omega) (by omega)⟩, fun c => ?_⟩, fun c => absurd (Int.le_refl _) c⟩
      exfalso
      apply c
      unfold b_lcmp
      rw [if_neg (by omega)]
      split <;> omega
    · intro j hj ih hl s0 hs
      have u := ub (j + 1) (by omega)
      have u2 := ub j (by omega)
      have ej : j + 1 - lo = (j - lo) + 1 := by omega
      have ej2 : lo + (j - lo) = j := by omega
      have wqB := ih (by omega) s0 hs
      refine sX12_waysOf_20 _ _ _ _ ⟨fun c => by omega, fun _ => ?_⟩
      rw [ix21 (by omega) (by omega), tn, tn, hL1, w32_s (by omega)]
      refine ⟨⟨by omega, by omega⟩, ⟨by omega, by omega⟩, fun c => ?_, fun c => ⟨⟨by omega, by omega⟩, ?_⟩⟩
      · rw [Int.add_zero, w64_id (by omega) (by omega)]
        rw [ej, sm_f (by rw [ej2]; exact c)] at wqB
        exact wqB
      · rw [ej, sm_t (P := fun p => V1 385 p = lw (Fm V) lo hi) (by rw [ej2]; exact c), ej2] at wqB u
        rw [Int.add_assoc, w64_id (by omega) (by omega)]
        exact wqB
  refine ⟨fun c => ?_, fun c => ?_⟩
  · have h3 := wqA lo hlh (Nat.le_refl _) 0 ⟨by omega, by omega⟩
    rw [Nat.sub_self] at h3
    refine Wf.imp h3 (fun r V' ⟨z, z1, z2, z3⟩ => ⟨z, z1, z2, ?_⟩)
    rw [z3, Int.zero_add]
    exact nw_eq k2 k3 (by omega)
  · have h3 := wqA lo hlh (Nat.le_refl _) 1 ⟨by omega, by omega⟩
    rw [Nat.sub_self] at h3
    refine Wf.imp h3 (fun r V' ⟨z, z1, z2, z3⟩ => ⟨z, z1, z2, ?_⟩)
    have e : lo = hi := by omega
    rw [z3]
    unfold nw
    rw [if_pos e, e, Nat.sub_self]
    rfl
theorem x_ways (hI : Icore P n R V) (r f t : Int) : Mi K (d + 5) mX11_ways [vR 0, vI r, vI f, vI t] V (fun z V' => FrX V V' ∧ z = if winC V r f t then nw (FR P n V r.toNat) f.toNat t.toNat else -1) := by
  refine sX11_ways r f t ((c_loadWindow (d := d) hI r f t).use (fun z V' ⟨h1, h2⟩ => ?_))
  rcases h2 with ⟨q1, rfl⟩ | ⟨q1, rfl, j, lo, hi, m, rfl, rfl, rfl, b1, b2, b3, b4, b5, b6, b7, b8, b9, b10, b11, b12, b13⟩
  · exact ⟨fun _ => ⟨_, rfl, h1, by rw [if_neg q1]⟩, fun c => absurd rfl c⟩
  · obtain ⟨m', -, -, -, -, -, -, m7, m8⟩ := hI.row b1
    have hF : ∀ p q, lo ≤ q → q < p → p < hi → (FR P n V j p q ↔ Fc V' 146 p q) := fun p q h3 h4 h5 => by
      unfold Fc FR
      rw [b7, show (146 + 1 : Nat) = 147 from rfl, b10 p (by omega), b10 q (by omega)]
    refine ⟨fun c => absurd c (by decide), fun _ => (c_countWays2 (d := d + 1) (V := V') is146 (by rw [b7]; exact ⟨m7, m8⟩) b8 b9 b2 (by omega) (b11.congr hF) (b12.congr hF) (by rw [b13]; exact lw_congr hF)).use (fun z V2 ⟨k1, k2⟩ => ⟨_, rfl, fun c hc => ?_, ?_⟩)⟩
    · rw [k1 c (by omega), h1 c hc]
    · rw [if_pos q1, tn, tn, tn, k2]
      exact (nw_congr b2 hF).symm
theorem m_ways (hI : Icore P n R V) (r f t : Int) : Mi K (d + 5) mX12_ways [vR 369, vI r, vI f, vI t] V (fun z V' => FrM V V' ∧ z = if winC V r f t then nw (FR P n V r.toNat) f.toNat t.toNat else -1) := by
  refine sX12_ways r f t (m_window (d := d + 2) hI r f t (fun hc V1 hV => ⟨fun c => absurd rfl c, fun _ => ⟨_, rfl, hV, by rw [if_neg hc]⟩⟩) ?_)
  rintro i lo hi m rfl rfl rfl b1 b2 b3 b4 b5 hc V1 hV
  obtain ⟨m', -, -, -, -, -, -, m7, m8⟩ := hI.row b1
  refine ⟨fun _ => m_laysAll (d := d) hI hV b1 b5 (fun V4 ⟨g1, g2, g3, g4, g5⟩ => ?_), fun c => absurd c (by decide)⟩
  have hF : ∀ p q, lo ≤ q → q < p → p < hi → (Fm V4 p q ↔ FR P n V i p q) := fun p q h1 h2 h3 => Fm_FR g2 g4 (by omega) (by omega)
  refine (m_waysOf (d := d + 2) (V := V4) (lo := lo) (hi := hi) (by rw [g2]; exact ⟨m7, m8⟩) b2 (by omega) (by rw [g5 lo hi b2 b3]; exact (lw_congr hF).symm)).use (fun z V5 ⟨k1, k2⟩ => ⟨_, rfl, g1.tr ⟨fun c q1 q2 => k1 c (by omega) (by omega), fun j _ _ _ _ => by rw [k1 369 (by omega) (by omega)]⟩, ?_⟩)
  rw [if_pos hc, tn, tn, tn, k2]
  exact nw_congr b2 hF
end CWX
