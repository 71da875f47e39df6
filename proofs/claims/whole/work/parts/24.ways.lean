/-! ===== in how many ways: sums over places; the reference's findsEnding, findsStarting, findsLongs ===== -/
/-- the sum of f over those of lo .. lo+n-1 with P -/
noncomputable def sm (P : Nat → Prop) (f : Nat → Int) (lo : Nat) : Nat → Int
  | 0 => 0
  | n + 1 => sm P f lo n + @ite Int (P (lo + n)) (Classical.propDecidable _) (f (lo + n)) 0
theorem sm_t {P : Nat → Prop} {f : Nat → Int} {lo n : Nat} (h : P (lo + n)) : sm P f lo (n + 1) = sm P f lo n + f (lo + n) := by
  show sm P f lo n + @ite Int (P (lo + n)) (Classical.propDecidable _) (f (lo + n)) 0 = _
  rw [if_pos h]
theorem sm_f {P : Nat → Prop} {f : Nat → Int} {lo n : Nat} (h : ¬ P (lo + n)) : sm P f lo (n + 1) = sm P f lo n := by
  show sm P f lo n + @ite Int (P (lo + n)) (Classical.propDecidable _) (f (lo + n)) 0 = _
  rw [if_neg h, Int.add_zero]
theorem sm_congr {P P2 : Nat → Prop} {f f2 : Nat → Int} {lo : Nat} : ∀ n, (∀ q, lo ≤ q → q < lo + n → (P q ↔ P2 q)) → (∀ q, lo ≤ q → q < lo + n → P q → f q = f2 q) → sm P f lo n = sm P2 f2 lo n
  | 0, _, _ => rfl
  | n + 1, h1, h2 => by
    have ih := sm_congr n (fun q a b => h1 q a (by omega)) (fun q a b => h2 q a (by omega))
    by_cases h : P (lo + n)
    · rw [sm_t h, sm_t ((h1 _ (by omega) (by omega)).mp h), ih, h2 _ (by omega) (by omega) h]
    · rw [sm_f h, sm_f (fun q => h ((h1 _ (by omega) (by omega)).mpr q)), ih]
theorem sm_0 {P : Nat → Prop} {f : Nat → Int} {lo : Nat} : ∀ n, (∀ q, lo ≤ q → q < lo + n → ¬ P q) → sm P f lo n = 0
  | 0, _ => rfl
  | n + 1, h => by rw [sm_f (h _ (by omega) (by omega)), sm_0 n (fun q a b => h q a (by omega))]
/-- the ways of p, of the first n places, where the most is m -/
noncomputable def wy (F : Nat → Nat → Prop) (p : Nat) (E W : Nat → Int) (lo n : Nat) (m : Int) : Int := if m = 0 then 1 else sm (fun q => F p q ∧ E q = m) W lo n
def isWay (F : Nat → Nat → Prop) (lo hi : Nat) (E W : Nat → Int) : Prop := ∀ p, lo ≤ p → p < hi → W p = wy F p E W lo (p - lo) (E p - 1)
theorem wy_skip {F : Nat → Nat → Prop} {p : Nat} {E W : Nat → Int} {lo n : Nat} {m : Int} (h : ¬ (F p (lo + n) ∧ E (lo + n) = m)) : wy F p E W lo (n + 1) m = wy F p E W lo n m := by
  unfold wy
  rw [sm_f h]
theorem wy_add {F : Nat → Nat → Prop} {p : Nat} {E W : Nat → Int} {lo n : Nat} {m : Int} (hm : ¬ m = 0) (h : F p (lo + n) ∧ E (lo + n) = m) : wy F p E W lo (n + 1) m = wy F p E W lo n m + W (lo + n) := by
  unfold wy
  rw [if_neg hm, if_neg hm, sm_t h]
theorem wy_new {F : Nat → Nat → Prop} {p : Nat} {E W : Nat → Int} {lo n : Nat} {m : Int} (hE : Emx (F p) E lo (lo + n) m) (h : F p (lo + n)) (hm : m < E (lo + n)) (h1 : 1 ≤ E (lo + n)) : wy F p E W lo (n + 1) (E (lo + n)) = W (lo + n) := by
  unfold wy
  rw [if_neg (by omega), sm_t ⟨h, rfl⟩, sm_0 n, Int.zero_add]
  intro q a b ⟨c1, c2⟩
  have := hE.2.1 q a b c1
  omega
theorem wy_congr {F : Nat → Nat → Prop} {p : Nat} {E W E2 W2 : Nat → Int} {lo n : Nat} {m : Int} (h1 : ∀ q, lo ≤ q → q < lo + n → E q = E2 q) (h2 : ∀ q, lo ≤ q → q < lo + n → W q = W2 q) : wy F p E W lo n m = wy F p E2 W2 lo n m := by
  unfold wy
  rw [sm_congr n (P2 := fun q => F p q ∧ E2 q = m) (f2 := W2) (fun q a b => by rw [h1 q a b]) (fun q a b _ => h2 q a b)]
theorem isWay.push {F : Nat → Nat → Prop} {lo p : Nat} {E W E2 W2 : Nat → Int} (h : isWay F lo p E W) (hE : ∀ q, q < p → E2 q = E q) (hW : ∀ q, q < p → W2 q = W q) (hp : W2 p = wy F p E W lo (p - lo) (E2 p - 1)) : isWay F lo (p + 1) E2 W2 := by
  intro q a b
  have c : ∀ t, t ≤ p → ∀ r, lo ≤ r → r < lo + (t - lo) → E r = E2 r ∧ W r = W2 r := fun t ht r r1 r2 => ⟨(hE r (by omega)).symm, (hW r (by omega)).symm⟩
  rcases Nat.lt_or_ge q p with z | z
  · rw [hW q z, h q a z, hE q z]
    exact wy_congr (fun r r1 r2 => (c q (by omega) r r1 r2).1) (fun r r1 r2 => (c q (by omega) r r1 r2).2)
  · have : q = p := by omega
    subst this
    rw [hp]
    exact wy_congr (fun r r1 r2 => (c q (by omega) r r1 r2).1) (fun r r1 r2 => (c q (by omega) r r1 r2).2)
theorem sm_le {P : Nat → Prop} {f : Nat → Int} {lo : Nat} : ∀ n, (∀ k, k < n → P (lo + k) → 0 ≤ f (lo + k) ∧ f (lo + k) ≤ 2 ^ k) → 0 ≤ sm P f lo n ∧ sm P f lo n ≤ 2 ^ n - 1
  | 0, _ => ⟨Int.le_refl 0, Int.le_refl 0⟩
  | n + 1, h => by
    have ih := sm_le n (fun k hk => h k (by omega))
    have e : (2 : Int) ^ (n + 1) = 2 ^ n + 2 ^ n := by rw [Int.pow_succ]; omega
    by_cases hp : P (lo + n)
    · have := h n (by omega) hp
      rw [sm_t hp, e]
      omega
    · rw [sm_f hp, e]
      omega
theorem pw_pos (n : Nat) : (1 : Int) ≤ 2 ^ n := by
  induction n with
  | zero => exact Int.le_refl 1
  | succ n ih => rw [Int.pow_succ]; omega
theorem pw_20 {n : Nat} (h : n ≤ 20) : (2 : Int) ^ n ≤ 1048576 := by
  have h2 : (2 : Nat) ^ n ≤ 2 ^ 20 := Nat.pow_le_pow_right (by decide) h
  have e : ((2 ^ n : Nat) : Int) = (2 : Int) ^ n := by rw [Int.natCast_pow]; rfl
  rw [← e]
  have : (2 : Nat) ^ 20 = 1048576 := by decide
  omega
theorem wy_le {F : Nat → Nat → Prop} {p : Nat} {E W : Nat → Int} {lo n : Nat} {m : Int} (h : ∀ k, k < n → 0 ≤ W (lo + k) ∧ W (lo + k) ≤ 2 ^ k) : 0 ≤ wy F p E W lo n m ∧ wy F p E W lo n m ≤ 2 ^ n := by
  unfold wy
  have := pw_pos n
  split
  · omega
  · have := sm_le (P := fun q => F p q ∧ E q = m) (f := W) (lo := lo) n (fun k hk _ => h k hk)
    omega
theorem isWay.le {F : Nat → Nat → Prop} {lo hi : Nat} {E W : Nat → Int} (h : isWay F lo hi E W) : ∀ k, lo + k < hi → 0 ≤ W (lo + k) ∧ W (lo + k) ≤ 2 ^ k := by
  intro k
  induction k using Nat.strongRecOn with
  | ind k ih =>
    intro hk
    rw [h (lo + k) (by omega) hk, show lo + k - lo = k by omega]
    exact wy_le (fun j hj => ih j hj (by omega))
abbrev Fm (V : Mem) (p q : Nat) : Prop := fol (V 369 22) (V 383 p) (V 383 q)
section CMW
variable {K : KK} {d : Nat} {V : Mem}
theorem m_findsEnding {lo hi : Nat} (hk : 0 ≤ V 369 22 ∧ V 369 22 ≤ 3) (hlh : lo ≤ hi) (h20 : hi ≤ 20) : Mv K (d + 1) mX12_findsEnding [vR 369, vI (lo : Int), vI (hi : Int)] V (fun V' => (∀ c, c ≠ 385 → c ≠ 387 → V' c = V c) ∧ isEnd (Fm V) lo hi (V' 385) ∧ isWay (Fm V) lo hi (V' 385) (V' 387)) := by
  refine sX12_findsEnding lo hi ?_
  have wqA : ∀ i, i ≤ hi → lo ≤ i → ∀ V' : Mem, (∀ c, c ≠ 385 → c ≠ 387 → V' c = V c) → isEnd (Fm V) lo i (V' 385) → isWay (Fm V) lo i (V' 385) (V' 387) → Wf K (d + 1) mX12_findsEnding 2 [some (vR 369), some (vI (lo : Int)), some (vI (hi : Int)), some (vI (i : Int)), none] [] V' (fun r V' => r = none ∧ (∀ c, c ≠ 385 → c ≠ 387 → V' c = V c) ∧ isEnd (Fm V) lo hi (V' 385) ∧ isWay (Fm V) lo hi (V' 385) (V' 387)) := by
    refine up_ind ?_ ?_
    · intro _ V' hV hE hW
      exact sX12_findsEnding_2 _ _ _ ⟨fun _ => ⟨rfl, hV, hE, hW⟩, fun c => absurd (Int.le_refl _) c⟩
    · intro p hp ih hl V' hV hE hW
      refine sX12_findsEnding_2 _ _ _ ⟨fun c => by omega, fun _ => ⟨⟨by omega, by omega⟩, ⟨by omega, by omega⟩, ?_⟩⟩
      rw [tn]
      have wqB : ∀ e, e ≤ p → lo ≤ e → ∀ (m : Int) (V2 : Mem), (∀ c, c ≠ 385 → c ≠ 387 → V2 c = V c) → (∀ q, q < p → V2 385 q = V' 385 q) → (∀ q, q < p → V2 387 q = V' 387 q) → V2 385 p = m + 1 → V2 387 p = wy (Fm V) p (V' 385) (V' 387) lo (e - lo) m → Emx (Fm V p) (V' 385) lo e m → Wf K (d + 1) mX12_findsEnding 24 [some (vR 369), some (vI (lo : Int)), some (vI (hi : Int)), some (vI (p : Int)), some (vI (e : Int))] [] V2 (fun r V' => r = none ∧ (∀ c, c ≠ 385 → c ≠ 387 → V' c = V c) ∧ isEnd (Fm V) lo hi (V' 385) ∧ isWay (Fm V) lo hi (V' 385) (V' 387)) := by
        refine up_ind ?_ ?_
        · intro _ m V2 g1 g2 g3 g4 g5 g6
          refine sX12_findsEnding_24 _ _ _ _ ⟨fun _ => ?_, fun c => absurd (Int.le_refl _) c⟩
          rw [w32_s (by omega)]
          refine ih (by omega) V2 g1 (hE.push g6 g2 g4) (hW.push g2 g3 ?_)
          rw [g5, g4, Int.add_sub_cancel]
        · intro e he ih2 hle m V2 g1 g2 g3 g4 g5 g6
          have hE1 := hE.ge hle he
          have hE2 := hE.le e hle he
          have hm0 := g6.1
          have hm20 : m ≤ 20 := by
            rcases g6.2.2 with z | ⟨q, q1, q2, q3, q4⟩
            · omega
            · have := hE.le q q1 (by omega); omega
          have hel : lo + (e - lo) = e := by omega
          have hes : e + 1 - lo = (e - lo) + 1 := by omega
          have bW : 0 ≤ V2 387 p ∧ V2 387 p ≤ 1048576 := by
            have h1 := wy_le (F := Fm V) (p := p) (E := V' 385) (W := V' 387) (lo := lo) (n := e - lo) (m := m) (fun k hk2 => hW.le k (by omega))
            have h2 := pw_20 (n := e - lo) (by omega)
            rw [g5]; omega
          have bQ : 0 ≤ V' 387 e ∧ V' 387 e ≤ 1048576 := by
            have h1 := hW.le (e - lo) (by omega)
            rw [hel] at h1
            have h2 := pw_20 (n := e - lo) (by omega)
            omega
          refine sX12_findsEnding_24 _ _ _ _ ⟨fun c => by omega, fun _ => ⟨⟨by omega, by omega⟩, ⟨by omega, by omega⟩, ?_⟩⟩
          rw [tn, tn]
          refine (m_follows (d := d) (by rw [g1 369 (by omega) (by omega)]; exact hk) _ _).use ⟨fun z => ?_, fun z => ?_⟩
          · have nF : ¬ Fm V p e := by
              intro q
              rw [g1 369 (by omega) (by omega), g1 383 (by omega) (by omega), if_pos q] at z
              cases z
            refine sX12_findsEnding_167 _ _ _ _ ?_
            rw [w32_s (by omega)]
            refine ih2 (by omega) m V2 g1 g2 g3 g4 ?_ (g6.skip (fun q => absurd q nF))
            rw [g5, hes, wy_skip (by rw [hel]; exact fun q => nF q.1)]
          · have hF : Fm V p e := by
              rw [g1 369 (by omega) (by omega), g1 383 (by omega) (by omega)] at z
              exact Decidable.byContradiction (fun q => z (if_neg q))
            rw [g2 e he, g3 e he, g4, w32_id (x := V' 385 e + 1) (by omega) (by omega)]
            refine ⟨⟨by omega, by omega⟩, ⟨by omega, by omega⟩, fun c => ⟨⟨by omega, by omega⟩, ⟨by omega, by omega⟩, fun c2 => ⟨⟨by omega, by omega⟩, ?_⟩, fun c2 => ⟨⟨by omega, by omega⟩, ⟨by omega, by omega⟩, ?_⟩⟩, fun c => ⟨⟨by omega, by omega⟩, ?_⟩⟩
            · -- less: nothing changes
              refine sX12_findsEnding_124 _ _ _ _ _ _ ⟨⟨by omega, by omega⟩, ⟨by omega, by omega⟩, ⟨by omega, by omega⟩, ?_⟩
              rw [tn, tn, upm_a (b := 385) (by omega), upm_a (b := 385) (by omega), g2 e he, g4, w32_id (x := V' 385 e + 1) (by omega) (by omega)]
              refine ⟨fun _ => ⟨⟨by omega, by omega⟩, ?_⟩, fun q => absurd c q⟩
              refine sX12_findsEnding_166 _ _ _ _ _ _ ⟨⟨by omega, by omega⟩, ?_⟩
              rw [tn]
              refine sX12_findsEnding_167 _ _ _ _ ?_
              rw [w32_s (by omega)]
              refine ih2 (by omega) m _ (fun c q1 q2 => by rw [upm_off c q1, upm_off c q2]; exact g1 c q1 q2) (fun q hq => by rw [upm_k (by omega), upm_a (by omega)]; exact g2 q hq) (fun q hq => by rw [upm_a (by omega), upm_k (by omega)]; exact g3 q hq) (upm_s _ _ _ _) ?_ (g6.skip (fun _ => by omega))
              rw [upm_a (by omega), upm_s, g5, hes, wy_skip (by rw [hel]; exact fun q => by omega)]
            · -- the same: the ways are added
              rw [w64_id (by omega) (by omega)]
              refine sX12_findsEnding_124 _ _ _ _ _ _ ⟨⟨by omega, by omega⟩, ⟨by omega, by omega⟩, ⟨by omega, by omega⟩, ?_⟩
              rw [tn, tn, upm_a (b := 385) (by omega), upm_a (b := 385) (by omega), g2 e he, g4, w32_id (x := V' 385 e + 1) (by omega) (by omega)]
              refine ⟨fun _ => ⟨⟨by omega, by omega⟩, ?_⟩, fun q => absurd c q⟩
              refine sX12_findsEnding_166 _ _ _ _ _ _ ⟨⟨by omega, by omega⟩, ?_⟩
              rw [tn]
              refine sX12_findsEnding_167 _ _ _ _ ?_
              rw [w32_s (by omega)]
              refine ih2 (by omega) m _ (fun c q1 q2 => by rw [upm_off c q1, upm_off c q2]; exact g1 c q1 q2) (fun q hq => by rw [upm_k (by omega), upm_a (by omega)]; exact g2 q hq) (fun q hq => by rw [upm_a (by omega), upm_k (by omega)]; exact g3 q hq) (upm_s _ _ _ _) ?_ (g6.skip (fun _ => by omega))
              rw [upm_a (by omega), upm_s, g5, hes, wy_add (by omega) (by rw [hel]; exact ⟨hF, by omega⟩), hel]
            · -- more: the ways are new
              refine sX12_findsEnding_124 _ _ _ _ _ _ ⟨⟨by omega, by omega⟩, ⟨by omega, by omega⟩, ⟨by omega, by omega⟩, ?_⟩
              rw [tn, tn, upm_a (b := 385) (by omega), upm_a (b := 385) (by omega), g2 e he, g4, w32_id (x := V' 385 e + 1) (by omega) (by omega)]
              refine ⟨fun q => absurd q c, fun _ => ⟨⟨by omega, by omega⟩, ?_⟩⟩
              refine sX12_findsEnding_166 _ _ _ _ _ _ ⟨⟨by omega, by omega⟩, ?_⟩
              rw [tn]
              refine sX12_findsEnding_167 _ _ _ _ ?_
              rw [w32_s (by omega)]
              refine ih2 (by omega) (V' 385 e) _ (fun c q1 q2 => by rw [upm_off c q1, upm_off c q2]; exact g1 c q1 q2) (fun q hq => by rw [upm_k (by omega), upm_a (by omega)]; exact g2 q hq) (fun q hq => by rw [upm_a (by omega), upm_k (by omega)]; exact g3 q hq) (upm_s _ _ _ _) ?_ (g6.take hle hF (by omega))
              have hnew := wy_new (F := Fm V) (p := p) (E := V' 385) (W := V' 387) (lo := lo) (n := e - lo) (m := m) (by rw [hel]; exact g6) (by rw [hel]; exact hF) (by rw [hel]; omega) (by rw [hel]; omega)
              rw [hel] at hnew
              rw [upm_a (by omega), upm_s, hes, hnew]
      exact wqB lo hl (Nat.le_refl _) 0 _ (fun c q1 q2 => by rw [upm_off c q2, upm_off c q1]; exact hV c q1 q2) (fun q hq => by rw [upm_a (by omega), upm_k (by omega)]) (fun q hq => by rw [upm_k (by omega), upm_a (by omega)]) (by rw [upm_a (by omega), upm_s]; rfl) (by rw [upm_s, Nat.sub_self]; rfl) (Emx.nil (Nat.le_refl _))
  exact wqA lo hlh (Nat.le_refl _) V (fun _ _ _ => rfl) (isEnd.nil (Nat.le_refl _)) (fun p h1 h2 => by omega)
end CMW
