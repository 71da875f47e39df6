/-! ===== copies of stores, the class's deeds, the reference's moves ===== -/
def cpR (V : Mem) (a a' b b' : Nat) : Mem := upm (upm (upm (cpm V a' (Int.toNat 0) b' (Int.toNat 0) (Int.toNat 20)) b 1 ((cpm V a' (Int.toNat 0) b' (Int.toNat 0) (Int.toNat 20)) a 1)) b 2 ((upm (cpm V a' (Int.toNat 0) b' (Int.toNat 0) (Int.toNat 20)) b 1 ((cpm V a' (Int.toNat 0) b' (Int.toNat 0) (Int.toNat 20)) a 1)) a 2)) b 3 ((upm (upm (cpm V a' (Int.toNat 0) b' (Int.toNat 0) (Int.toNat 20)) b 1 ((cpm V a' (Int.toNat 0) b' (Int.toNat 0) (Int.toNat 20)) a 1)) b 2 ((upm (cpm V a' (Int.toNat 0) b' (Int.toNat 0) (Int.toNat 20)) b 1 ((cpm V a' (Int.toNat 0) b' (Int.toNat 0) (Int.toNat 20)) a 1)) a 2)) a 3)
theorem cpR_ok {V : Mem} {a a' b b' : Nat} (h1 : a ≠ b) (h2 : a ≠ b') (h3 : a' ≠ b) (h4 : b ≠ b') : (∀ c, c ≠ b → c ≠ b' → cpR V a a' b b' c = V c) ∧ cpR V a a' b b' b 1 = V a 1 ∧ cpR V a a' b b' b 2 = V a 2 ∧ cpR V a a' b b' b 3 = V a 3 ∧ ∀ s, s < 20 → cpR V a a' b b' b' s = V a' s := by
  unfold cpR
  refine ⟨fun c q1 q2 => ?_, ?_, ?_, ?_, fun s hs => ?_⟩
  · rw [upm_off c q1, upm_off c q1, upm_off c q1, cpm_off q2]
  · rw [upm_k (by decide), upm_k (by decide), upm_s, cpm_off h2]
  · rw [upm_k (by decide), upm_s, upm_a h1, cpm_off h2]
  · rw [upm_s, upm_a h1, upm_a h1, cpm_off h2]
  · rw [upm_a (Ne.symm h4), upm_a (Ne.symm h4), upm_a (Ne.symm h4)]
    exact cpm_in hs
/-- the store at a of V' is the store at b of V, of R rows, B braids, S seen -/
def StCp (V : Mem) (b : Nat) (V' : Mem) (a R B S : Nat) : Prop := (V' a 5 = V b 5 ∧ V' a 6 = V b 6 ∧ V' a 7 = V b 7) ∧ (∀ r, r < R → (V' (a + 6 + 2 * r) 1 = V (b + 6 + 2 * r) 1 ∧ V' (a + 6 + 2 * r) 2 = V (b + 6 + 2 * r) 2 ∧ V' (a + 6 + 2 * r) 3 = V (b + 6 + 2 * r) 3) ∧ ∀ p, p < 20 → V' (a + 7 + 2 * r) p = V (b + 7 + 2 * r) p) ∧ (∀ k, k < B → (V' (a + 14 + 2 * k) 1 = V (b + 14 + 2 * k) 1 ∧ V' (a + 14 + 2 * k) 2 = V (b + 14 + 2 * k) 2 ∧ V' (a + 14 + 2 * k) 3 = V (b + 14 + 2 * k) 3) ∧ ∀ s, s < 10 → V' (a + 15 + 2 * k) s = V (b + 15 + 2 * k) s) ∧ ∀ i, i < S → V' (a + 3) i = V (b + 3) i ∧ V' (a + 4) i = V (b + 4) i ∧ V' (a + 5) i = V (b + 5) i
theorem StCp.rw {V V' : Mem} {a b R B S : Nat} {g kd : Nat → Int} (h : StCp V b V' a R B S) (h2 : CpRw V b g kd R) : CpRw V' a g kd R := by
  refine ⟨by rw [h.1.1]; exact h2.1, h2.2.1, fun r hr => ?_⟩
  obtain ⟨m, a1, a2, a3, a4, a5, a6⟩ := h2.2.2 r hr
  obtain ⟨⟨-, e2, e3⟩, e4⟩ := h.2.1 r hr
  exact ⟨m, by rw [e3]; exact a1, a2, a3, a4, fun p hp => by rw [e4 p (by omega)]; exact a5 p hp, by rw [e2]; exact a6⟩
theorem StCp.b0 {V V' : Mem} {a b R B S : Nat} {g : Nat → Int} (h : StCp V b V' a R B S) (h2 : CpB0 V b g B) : CpB0 V' a g B := by
  refine ⟨by rw [h.1.2.1]; exact h2.1, h2.2.1, h2.2.2.1, fun k hk => ?_⟩
  obtain ⟨n, a1, a2, a3, a4, a5, a6⟩ := h2.2.2.2 k hk
  obtain ⟨⟨-, e2, e3⟩, e4⟩ := h.2.2.1 k hk
  exact ⟨n, by rw [e2]; exact a1, a2, a3, a4, fun p hp => by rw [e4 p (by omega)]; exact a5 p hp, a6⟩
theorem StCp.md {V V' : Mem} {a b R B S : Nat} {g : Nat → Int} (h : StCp V b V' a R B S) (h2 : CpMd V b g B) : CpMd V' a g B := fun k hk => by
  rw [(h.2.2.1 k hk).1.2.2]; exact h2 k hk
theorem StCp.seen {V V' : Mem} {a b R B S : Nat} {g : Nat → Int} (h : StCp V b V' a R B S) (h2 : Seen V b g S) : Seen V' a g S := by
  refine ⟨by rw [h.1.2.2]; exact h2.1, h2.2.1, h2.2.2.1, fun i hi => ?_⟩
  obtain ⟨e1, e2, e3⟩ := h.2.2.2 i hi
  rw [e1, e2, e3]
  exact h2.2.2.2 i hi
section CCP
variable {K : KK} {d : Nat} {V : Mem}
theorem c_copyStore {a b R B S : Nat} (h0 : IsStore a) (h1 : IsStore b) (hab : a + 30 ≤ b ∨ b + 30 ≤ a) (hE : kE K = false) (hR : V b 5 = R) (hR4 : R ≤ 4) (hB : V b 6 = B) (hB8 : B ≤ 8) (hS : V b 7 = S) (hS8 : S ≤ 8) (hm : ∀ i, i < S → V (b + 5) i = 0 ∨ V (b + 5) i = 1) : Mv K (d + 2) mX7_copyFrom [vR a, vR b] V (fun V' => (∀ c, c < a ∨ a + 30 ≤ c → V' c = V c) ∧ StCp V b V' a R B S) := by
  refine sX7_copyFrom a b h0 h1 ?_
  have wqC : ∀ V1 : Mem, (∀ c, c < a ∨ a + 30 ≤ c → V1 c = V c) → (∀ r, r < R → (V1 (a + 6 + 2 * r) 1 = V (b + 6 + 2 * r) 1 ∧ V1 (a + 6 + 2 * r) 2 = V (b + 6 + 2 * r) 2 ∧ V1 (a + 6 + 2 * r) 3 = V (b + 6 + 2 * r) 3) ∧ ∀ p, p < 20 → V1 (a + 7 + 2 * r) p = V (b + 7 + 2 * r) p) → (∀ k, k < B → (V1 (a + 14 + 2 * k) 1 = V (b + 14 + 2 * k) 1 ∧ V1 (a + 14 + 2 * k) 2 = V (b + 14 + 2 * k) 2 ∧ V1 (a + 14 + 2 * k) 3 = V (b + 14 + 2 * k) 3) ∧ ∀ s, s < 10 → V1 (a + 15 + 2 * k) s = V (b + 15 + 2 * k) s) → ∀ i, i ≤ S → ∀ V' : Mem, (∀ c, c ≠ a + 3 → c ≠ a + 4 → c ≠ a + 5 → V' c = V1 c) → (∀ j, j < i → V' (a + 3) j = V (b + 3) j ∧ V' (a + 4) j = V (b + 4) j ∧ V' (a + 5) j = V (b + 5) j) → Wf K (d + 2) mX7_copyFrom 64 [some (vR a), some (vR b), some (vI (i : Int))] [] V' (fun r V' => r = none ∧ (∀ c, c < a ∨ a + 30 ≤ c → V' c = V c) ∧ StCp V b V' a R B S) := by
    intro V1 f1 f2 f3
    refine up_ind ?_ ?_
    · intro V' g1 g2
      have eb : V' b = V b := by rw [g1 b (by omega) (by omega) (by omega), f1 b (by omega)]
      refine sX7_copyFrom_64 a b _ h0 h1 ⟨fun _ => ⟨rfl, fun c q => ?_, ⟨?_, ?_, ?_⟩, fun r hr => ?_, fun k hk => ?_, fun i hi => ?_⟩, fun c => absurd (by rw [eb, hS]; exact Int.le_refl _) c⟩
      · rw [upm_off c (by omega), upm_off c (by omega), upm_off c (by omega), g1 c (by omega) (by omega) (by omega)]; exact f1 c q
      · rw [upm_k (by decide), upm_k (by decide), upm_s, eb]
      · rw [upm_k (by decide), upm_s, upm_a (by omega), eb]
      · rw [upm_s, upm_a (by omega), upm_a (by omega), eb]
      · rw [upm_off _ (by omega), upm_off _ (by omega), upm_off _ (by omega), upm_off _ (by omega), upm_off _ (by omega), upm_off _ (by omega), g1 _ (by omega) (by omega) (by omega), g1 _ (by omega) (by omega) (by omega)]; exact f2 r hr
      · rw [upm_off _ (by omega), upm_off _ (by omega), upm_off _ (by omega), upm_off _ (by omega), upm_off _ (by omega), upm_off _ (by omega), g1 _ (by omega) (by omega) (by omega), g1 _ (by omega) (by omega) (by omega)]; exact f3 k hk
      · rw [upm_off (a + 3) (by omega), upm_off (a + 3) (by omega), upm_off (a + 3) (by omega), upm_off (a + 4) (by omega), upm_off (a + 4) (by omega), upm_off (a + 4) (by omega), upm_off (a + 5) (by omega), upm_off (a + 5) (by omega), upm_off (a + 5) (by omega)]; exact g2 i hi
    · intro i hi ih V' g1 g2
      have eb : ∀ c, c < a ∨ a + 30 ≤ c → V' c = V c := fun c q => by rw [g1 c (by omega) (by omega) (by omega), f1 c q]
      refine sX7_copyFrom_64 a b _ h0 h1 ⟨fun c => absurd c (by rw [eb b (by omega), hS]; omega), fun _ => ?_⟩
      rw [tn, w32_s (i := i) (by omega), upm_off (b + 4) (show b + 4 ≠ a + 3 by omega), upm_off (b + 5) (show b + 5 ≠ a + 4 by omega), upm_off (b + 5) (show b + 5 ≠ a + 3 by omega), eb (b + 3) (by omega), eb (b + 4) (by omega), eb (b + 5) (by omega)]
      refine ⟨⟨by omega, by omega⟩, ⟨by omega, by omega⟩, ⟨by omega, by omega⟩, ⟨by omega, by omega⟩, ⟨by omega, by omega⟩, ⟨by omega, by omega⟩, hm i hi, ih _ (fun c q1 q2 q3 => by rw [upm_off c q3, upm_off c q2, upm_off c q1]; exact g1 c q1 q2 q3) (fun j hj => ?_)⟩
      by_cases c : j = i
      · subst c
        refine ⟨?_, ?_, ?_⟩
        · rw [upm_a (by omega), upm_a (by omega), upm_s]
        · rw [upm_a (by omega), upm_s]
        · rw [upm_s]
      · obtain ⟨e1, e2, e3⟩ := g2 j (by omega)
        refine ⟨?_, ?_, ?_⟩
        · rw [upm_k c, upm_k c, upm_k c]; exact e1
        · rw [upm_k c, upm_k c, upm_k c]; exact e2
        · rw [upm_k c, upm_k c, upm_k c]; exact e3
  have wqB : ∀ V1 : Mem, (∀ c, c < a ∨ a + 30 ≤ c → V1 c = V c) → (∀ r, r < R → (V1 (a + 6 + 2 * r) 1 = V (b + 6 + 2 * r) 1 ∧ V1 (a + 6 + 2 * r) 2 = V (b + 6 + 2 * r) 2 ∧ V1 (a + 6 + 2 * r) 3 = V (b + 6 + 2 * r) 3) ∧ ∀ p, p < 20 → V1 (a + 7 + 2 * r) p = V (b + 7 + 2 * r) p) → ∀ i, i ≤ B → ∀ V' : Mem, (∀ c, c < a + 14 ∨ a + 30 ≤ c → V' c = V1 c) → (∀ k, k < i → (V' (a + 14 + 2 * k) 1 = V (b + 14 + 2 * k) 1 ∧ V' (a + 14 + 2 * k) 2 = V (b + 14 + 2 * k) 2 ∧ V' (a + 14 + 2 * k) 3 = V (b + 14 + 2 * k) 3) ∧ ∀ s, s < 10 → V' (a + 15 + 2 * k) s = V (b + 15 + 2 * k) s) → Wf K (d + 2) mX7_copyFrom 33 [some (vR a), some (vR b), some (vI (i : Int))] [] V' (fun r V' => r = none ∧ (∀ c, c < a ∨ a + 30 ≤ c → V' c = V c) ∧ StCp V b V' a R B S) := by
    intro V1 f1 f2
    refine up_ind ?_ ?_
    · intro V' g1 g2
      have eb : ∀ c, c < a ∨ a + 30 ≤ c → V' c = V c := fun c q => by rw [g1 c (by omega), f1 c q]
      refine sX7_copyFrom_33 a b _ h0 h1 hE ⟨fun _ => wqC V' eb (fun r hr => ?_) g2 0 (Nat.zero_le _) V' (fun _ _ _ _ => rfl) (fun j hj => absurd hj (Nat.not_lt_zero j)), fun c => absurd (by rw [eb b (by omega), hB]; exact Int.le_refl _) c⟩
      rw [g1 (a + 6 + 2 * r) (by omega), g1 (a + 7 + 2 * r) (by omega)]
      exact f2 r hr
    · intro i hi ih V' g1 g2
      have eb : ∀ c, c < a ∨ a + 30 ≤ c → V' c = V c := fun c q => by rw [g1 c (by omega), f1 c q]
      refine sX7_copyFrom_33 a b _ h0 h1 hE ⟨fun c => absurd c (by rw [eb b (by omega), hB]; omega), fun _ => ⟨⟨by omega, by omega⟩, ⟨by omega, by omega⟩, ?_⟩⟩
      rw [tn, w32_s (i := i) (by omega)]
      obtain ⟨c1, c2, c3, c4, c5⟩ := cpB_ok (V := V') (a := b + 14 + 2 * i) (a' := b + 14 + 2 * i + 1) (b := a + 14 + 2 * i) (b' := a + 14 + 2 * i + 1) (by omega) (by omega) (by omega) (by omega)
      refine ih (cpB V' (b + 14 + 2 * i) (b + 14 + 2 * i + 1) (a + 14 + 2 * i) (a + 14 + 2 * i + 1)) (fun c q => by rw [c1 c (by omega) (by omega)]; exact g1 c q) (fun k hk => ?_)
      rw [eb (b + 14 + 2 * i) (by omega)] at c2 c3 c4
      rw [eb (b + 14 + 2 * i + 1) (by omega)] at c5
      by_cases c : k = i
      · rw [c, show a + 15 + 2 * i = a + 14 + 2 * i + 1 by omega, show b + 15 + 2 * i = b + 14 + 2 * i + 1 by omega]
        exact ⟨⟨c2, c3, c4⟩, c5⟩
      · rw [c1 _ (by omega) (by omega), c1 _ (by omega) (by omega)]
        exact g2 k (by omega)
  have wqA : ∀ i, i ≤ R → ∀ V' : Mem, (∀ c, c < a + 6 ∨ a + 14 ≤ c → V' c = V c) → (∀ r, r < i → (V' (a + 6 + 2 * r) 1 = V (b + 6 + 2 * r) 1 ∧ V' (a + 6 + 2 * r) 2 = V (b + 6 + 2 * r) 2 ∧ V' (a + 6 + 2 * r) 3 = V (b + 6 + 2 * r) 3) ∧ ∀ p, p < 20 → V' (a + 7 + 2 * r) p = V (b + 7 + 2 * r) p) → Wf K (d + 2) mX7_copyFrom 2 [some (vR a), some (vR b), some (vI (i : Int))] [] V' (fun r V' => r = none ∧ (∀ c, c < a ∨ a + 30 ≤ c → V' c = V c) ∧ StCp V b V' a R B S) := by
    refine up_ind ?_ ?_
    · intro V' g1 g2
      refine sX7_copyFrom_2 a b _ h0 h1 hE ⟨fun _ => wqB V' (fun c q => g1 c (by omega)) g2 0 (Nat.zero_le _) V' (fun _ _ => rfl) (fun j hj => absurd hj (Nat.not_lt_zero j)), fun c => absurd (by rw [g1 b (by omega), hR]; exact Int.le_refl _) c⟩
    · intro i hi ih V' g1 g2
      refine sX7_copyFrom_2 a b _ h0 h1 hE ⟨fun c => absurd c (by rw [g1 b (by omega), hR]; omega), fun _ => ⟨⟨by omega, by omega⟩, ⟨by omega, by omega⟩, ?_⟩⟩
      rw [tn, w32_s (i := i) (by omega)]
      obtain ⟨c1, c2, c3, c4, c5⟩ := cpR_ok (V := V') (a := b + 6 + 2 * i) (a' := b + 6 + 2 * i + 1) (b := a + 6 + 2 * i) (b' := a + 6 + 2 * i + 1) (by omega) (by omega) (by omega) (by omega)
      refine ih (cpR V' (b + 6 + 2 * i) (b + 6 + 2 * i + 1) (a + 6 + 2 * i) (a + 6 + 2 * i + 1)) (fun c q => by rw [c1 c (by omega) (by omega)]; exact g1 c q) (fun k hk => ?_)
      rw [g1 (b + 6 + 2 * i) (by omega)] at c2 c3 c4
      rw [g1 (b + 6 + 2 * i + 1) (by omega)] at c5
      by_cases c : k = i
      · rw [c, show a + 7 + 2 * i = a + 6 + 2 * i + 1 by omega, show b + 7 + 2 * i = b + 6 + 2 * i + 1 by omega]
        exact ⟨⟨c2, c3, c4⟩, c5⟩
      · rw [c1 _ (by omega) (by omega), c1 _ (by omega) (by omega)]
        exact g2 k (by omega)
  exact wqA 0 (Nat.zero_le _) V (fun _ _ => rfl) (fun j hj => absurd hj (Nat.not_lt_zero j))
/-- the deeds at a, of which N are kept behind the oldest sh, and one more -/
def DdAd (V V' : Mem) (a N sh : Nat) (x y z : Int) : Prop := V' a 3 = ((N + 1 : Nat) : Int) ∧ (∀ k, k < N → V' (a + 1) k = V (a + 1) (k + sh) ∧ V' (a + 2) k = V (a + 2) (k + sh) ∧ V' (a + 3) k = V (a + 3) (k + sh)) ∧ V' (a + 1) N = x ∧ V' (a + 2) N = y ∧ V' (a + 3) N = z
theorem ddput {a N : Nat} {x y z : Int} (hN : V a 3 = N) : ∃ V1 : Mem, V1 = upm (upm (upm (upm V (a + 1) N x) (a + 2) N y) (a + 3) N z) a 3 ((N + 1 : Nat) : Int) ∧ (∀ c, c < a ∨ a + 4 ≤ c → V1 c = V c) ∧ DdAd V V1 a N 0 x y z := by
  refine ⟨_, rfl, fun c q => by rw [upm_off c (by omega), upm_off c (by omega), upm_off c (by omega), upm_off c (by omega)], upm_s _ _ _ _, fun k hk => ⟨?_, ?_, ?_⟩, ?_, ?_, ?_⟩
  · rw [upm_a (by omega), upm_a (by omega), upm_a (by omega), upm_k (by omega)]; rfl
  · rw [upm_a (by omega), upm_a (by omega), upm_k (by omega), upm_a (by omega)]; rfl
  · rw [upm_a (by omega), upm_k (by omega), upm_a (by omega), upm_a (by omega)]; rfl
  · rw [upm_a (by omega), upm_a (by omega), upm_a (by omega), upm_s]
  · rw [upm_a (by omega), upm_a (by omega), upm_s]
  · rw [upm_a (by omega), upm_s]
theorem c_forget {a n0 : Nat} (h0 : IsDeeds n0 a) (h1 : 1 ≤ n0) : Mv K d mX3_forgetOldest [vR a] V (fun V' => (∀ c, c < a ∨ a + 4 ≤ c → V' c = V c) ∧ V' a 3 = ((n0 - 1 : Nat) : Int) ∧ ∀ k, k + 1 < n0 → V' (a + 1) k = V (a + 1) (k + 1) ∧ V' (a + 2) k = V (a + 2) (k + 1) ∧ V' (a + 3) k = V (a + 3) (k + 1)) := by
  have hbig := h0.2.2.2.2
  refine sX3_forgetOldest a n0 h0 ?_
  have wqA : ∀ i, i ≤ n0 → 1 ≤ i → ∀ V' : Mem, (∀ c, c < a ∨ a + 4 ≤ c → V' c = V c) → (∀ k, k + 1 < i → V' (a + 1) k = V (a + 1) (k + 1) ∧ V' (a + 2) k = V (a + 2) (k + 1) ∧ V' (a + 3) k = V (a + 3) (k + 1)) → (∀ k, i ≤ k → V' (a + 1) k = V (a + 1) k ∧ V' (a + 2) k = V (a + 2) k ∧ V' (a + 3) k = V (a + 3) k) → Wf K d mX3_forgetOldest 2 [some (vR a), some (vI (i : Int))] [] V' (fun r V' => r = none ∧ (∀ c, c < a ∨ a + 4 ≤ c → V' c = V c) ∧ V' a 3 = ((n0 - 1 : Nat) : Int) ∧ ∀ k, k + 1 < n0 → V' (a + 1) k = V (a + 1) (k + 1) ∧ V' (a + 2) k = V (a + 2) (k + 1) ∧ V' (a + 3) k = V (a + 3) (k + 1)) := by
    refine up_ind ?_ ?_
    · intro _ V' g1 g2 g3
      have e : w32 ((n0 : Int) - 1) = ((n0 - 1 : Nat) : Int) := by rw [w32_id (by omega) (by omega)]; omega
      refine sX3_forgetOldest_2 a n0 _ h0 ⟨fun _ => ?_, fun c => absurd (Int.le_refl _) c⟩
      rw [e]
      clear e
      refine ⟨rfl, fun c q => by rw [upm_off c (by omega)]; exact g1 c q, upm_s _ _ _ _, fun k hk => ?_⟩
      rw [upm_off (a + 1) (by omega), upm_off (a + 2) (by omega), upm_off (a + 3) (by omega)]
      exact g2 k hk
    · intro i hi ih hl V' g1 g2 g3
      obtain ⟨u, rfl⟩ : ∃ u, i = u + 1 := ⟨i - 1, by omega⟩
      obtain ⟨e1, e2, e3⟩ := g3 (u + 1) (Nat.le_refl _)
      refine sX3_forgetOldest_2 a n0 _ h0 ⟨fun c => by omega, fun _ => ?_⟩
      rw [w32_p (i := u) (by omega), tn, tn, w32_s (i := u + 1) (by omega), upm_off (a + 2) (show a + 2 ≠ a + 1 by omega), upm_off (a + 3) (show a + 3 ≠ a + 2 by omega), upm_off (a + 3) (show a + 3 ≠ a + 1 by omega), e1, e2, e3]
      refine ⟨⟨by omega, by omega⟩, ⟨by omega, by omega⟩, ⟨by omega, by omega⟩, ⟨by omega, by omega⟩, ⟨by omega, by omega⟩, ⟨by omega, by omega⟩, ih (by omega) _ (fun c q => by rw [upm_off c (by omega), upm_off c (by omega), upm_off c (by omega)]; exact g1 c q) (fun k hk => ?_) (fun k hk => ?_)⟩
      · by_cases c : k = u
        · subst c
          refine ⟨?_, ?_, ?_⟩
          · rw [upm_a (by omega), upm_a (by omega), upm_s]
          · rw [upm_a (by omega), upm_s]
          · rw [upm_s]
        · obtain ⟨f1, f2, f3⟩ := g2 k (by omega)
          refine ⟨?_, ?_, ?_⟩
          · rw [upm_k c, upm_k c, upm_k c]; exact f1
          · rw [upm_k c, upm_k c, upm_k c]; exact f2
          · rw [upm_k c, upm_k c, upm_k c]; exact f3
      · have c : k ≠ u := by omega
        obtain ⟨f1, f2, f3⟩ := g3 k (by omega)
        refine ⟨?_, ?_, ?_⟩
        · rw [upm_k c, upm_k c, upm_k c]; exact f1
        · rw [upm_k c, upm_k c, upm_k c]; exact f2
        · rw [upm_k c, upm_k c, upm_k c]; exact f3
  exact wqA 1 h1 (Nat.le_refl _) V (fun _ _ => rfl) (fun k hk => by omega) (fun _ _ => ⟨rfl, rfl, rfl⟩)
theorem c_add {a n0 U : Nat} (h0 : IsDeeds n0 a) (h1 : 1 ≤ n0) (hU : V a 3 = U) (hU2 : U ≤ n0) (x y z : Int) : Mv K (d + 1) mX3_add [vR a, vI x, vI y, vI z] V (fun V' => (∀ c, c < a ∨ a + 4 ≤ c → V' c = V c) ∧ DdAd V V' a (if U = n0 then U - 1 else U) (if U = n0 then 1 else 0) x y z) := by
  have hbig := h0.2.2.2.2
  have key : ∀ (V1 : Mem) (N : Nat), V1 a 3 = N → N < n0 → ∀ Q : Option AV → Mem → Prop, (∀ V2, (∀ c, c < a ∨ a + 4 ≤ c → V2 c = V1 c) → DdAd V1 V2 a N 0 x y z → Q none V2) → ((V1 a 3 < 0 → Q none V1) ∧ (¬ (V1 a 3 < 0) → (((n0 : Nat) ≤ (V1 a 3) → Q none V1) ∧ (¬ ((n0 : Nat) ≤ (V1 a 3)) → (((0 : Int) ≤ (V1 a 3) ∧ (V1 a 3) < (n0 : Nat)) ∧ (((0 : Int) ≤ ((upm V1 (a + 1) (Int.toNat (V1 a 3)) x) a 3) ∧ ((upm V1 (a + 1) (Int.toNat (V1 a 3)) x) a 3) < (n0 : Nat)) ∧ (((0 : Int) ≤ ((upm (upm V1 (a + 1) (Int.toNat (V1 a 3)) x) (a + 2) (Int.toNat ((upm V1 (a + 1) (Int.toNat (V1 a 3)) x) a 3)) y) a 3) ∧ ((upm (upm V1 (a + 1) (Int.toNat (V1 a 3)) x) (a + 2) (Int.toNat ((upm V1 (a + 1) (Int.toNat (V1 a 3)) x) a 3)) y) a 3) < (n0 : Nat)) ∧ Q none (upm (upm (upm (upm V1 (a + 1) (Int.toNat (V1 a 3)) x) (a + 2) (Int.toNat ((upm V1 (a + 1) (Int.toNat (V1 a 3)) x) a 3)) y) (a + 3) (Int.toNat ((upm (upm V1 (a + 1) (Int.toNat (V1 a 3)) x) (a + 2) (Int.toNat ((upm V1 (a + 1) (Int.toNat (V1 a 3)) x) a 3)) y) a 3)) z) a 3 (w32 (((upm (upm (upm V1 (a + 1) (Int.toNat (V1 a 3)) x) (a + 2) (Int.toNat ((upm V1 (a + 1) (Int.toNat (V1 a 3)) x) a 3)) y) (a + 3) (Int.toNat ((upm (upm V1 (a + 1) (Int.toNat (V1 a 3)) x) (a + 2) (Int.toNat ((upm V1 (a + 1) (Int.toNat (V1 a 3)) x) a 3)) y) a 3)) z) a 3) + 1)))))))))) := by
    intro V1 N hN hlt Q hQ
    rw [upm_a (b := a) (a := a + 3) (by omega), upm_a (b := a) (a := a + 2) (by omega), upm_a (b := a) (a := a + 1) (by omega), hN, tn, w32_s (i := N) (by omega)]
    obtain ⟨V2, e2, f1, f2⟩ := ddput (V := V1) (x := x) (y := y) (z := z) hN
    refine ⟨fun c => by omega, fun _ => ⟨fun c => by omega, fun _ => ⟨⟨by omega, by omega⟩, ⟨by omega, by omega⟩, ⟨by omega, by omega⟩, ?_⟩⟩⟩
    rw [← e2]
    exact hQ V2 f1 f2
  refine sX3_add a n0 x y z h0 ⟨fun c => ?_, fun c => ?_⟩
  · refine key V U hU (by omega) (fun r V' => r = none ∧ (∀ c, c < a ∨ a + 4 ≤ c → V' c = V c) ∧ DdAd V V' a (if U = n0 then U - 1 else U) (if U = n0 then 1 else 0) x y z) (fun V2 f1 f2 => ⟨rfl, f1, ?_⟩)
    rw [if_neg (by omega), if_neg (by omega)]
    exact f2
  · refine (c_forget (d := d) h0 h1).use (fun V4 ⟨g1, g2, g3⟩ => ?_)
    refine key V4 (n0 - 1) g2 (by omega) (fun r V' => r = none ∧ (∀ c, c < a ∨ a + 4 ≤ c → V' c = V c) ∧ DdAd V V' a (if U = n0 then U - 1 else U) (if U = n0 then 1 else 0) x y z) (fun V2 f1 f2 => ⟨rfl, fun c q => by rw [f1 c q, g1 c q], ?_⟩)
    have e : U = n0 := by omega
    subst e
    rw [if_pos rfl, if_pos rfl]
    obtain ⟨k1, k2, k3, k4, k5⟩ := f2
    refine ⟨k1, fun k hk => ?_, k3, k4, k5⟩
    obtain ⟨j1, j2, j3⟩ := k2 k hk
    obtain ⟨i1, i2, i3⟩ := g3 k (by omega)
    exact ⟨j1.trans i1, j2.trans i2, j3.trans i3⟩
theorem c_dd {a n0 U k : Nat} (h0 : IsDeeds n0 a) (hU : V a 3 = U) (hk : k < U) (hk2 : k < n0) : Pu K (d + 1) mX3_verbOf [vR a, vI (k : Int)] V (V (a + 1) k) ∧ Pu K (d + 1) mX3_whichOf [vR a, vI (k : Int)] V (V (a + 2) k) ∧ Pu K (d + 1) mX3_valueOf [vR a, vI (k : Int)] V (V (a + 3) k) := by
  have hh : ∀ T : Int → Mem → Prop, T 1 V → Mi K d mX3_has [vR a, vI (k : Int)] V T := fun T hT => by
    refine sX3_has a n0 _ h0 ?_
    rw [hU]
    exact ⟨fun c => by omega, fun _ => ⟨fun c => by omega, fun _ => ⟨fun c => by omega, fun _ => ⟨_, rfl, hT⟩⟩⟩⟩
  refine ⟨sX3_verbOf a n0 _ h0 (hh _ ⟨fun c => absurd c (by decide), fun _ => ⟨⟨by omega, by omega⟩, _, rfl, by rw [tn], rfl⟩⟩), sX3_whichOf a n0 _ h0 (hh _ ⟨fun c => absurd c (by decide), fun _ => ⟨⟨by omega, by omega⟩, _, rfl, by rw [tn], rfl⟩⟩), sX3_valueOf a n0 _ h0 (hh _ ⟨fun c => absurd c (by decide), fun _ => ⟨⟨by omega, by omega⟩, _, rfl, by rw [tn], rfl⟩⟩)⟩
theorem ixad {x i : Nat} (h : x + i < 5000) : w32 ((x : Int) + (i : Int)) = ((x + i : Nat) : Int) := by rw [w32_id (by omega) (by omega)]; omega
theorem m_moves {x y m : Nat} (hx : x + m ≤ 4532) (hy : y + m ≤ 4532) (hxy : y + m ≤ x ∨ x + m ≤ y) : Mv K d mX12_moves [vR 369, vI (x : Int), vI (y : Int), vI (m : Int)] V (fun V' => (∀ c, c ≠ 381 → V' c = V c) ∧ (∀ j, j < y ∨ y + m ≤ j → V' 381 j = V 381 j) ∧ ∀ i, i < m → V' 381 (y + i) = V 381 (x + i)) := by
  refine sX12_moves _ _ _ ?_
  have wqA : ∀ k, k ≤ m → ∀ V' : Mem, (∀ c, c ≠ 381 → V' c = V c) → (∀ j, j < y ∨ y + m ≤ j → V' 381 j = V 381 j) → (∀ i, i < k → V' 381 (y + i) = V 381 (x + i)) → Wf K d mX12_moves 3 [some (vR 369), some (vI (x : Int)), some (vI (y : Int)), some (vI (m : Int)), some (vI (k : Int))] [] V' (fun r V' => r = none ∧ (∀ c, c ≠ 381 → V' c = V c) ∧ (∀ j, j < y ∨ y + m ≤ j → V' 381 j = V 381 j) ∧ ∀ i, i < m → V' 381 (y + i) = V 381 (x + i)) := by
    refine up_ind ?_ ?_
    · intro V' g1 g2 g3
      exact sX12_moves_3 _ _ _ _ ⟨fun _ => ⟨rfl, g1, g2, g3⟩, fun c => absurd (Int.le_refl _) c⟩
    · intro k hk ih V' g1 g2 g3
      refine sX12_moves_3 _ _ _ _ ⟨fun c => by omega, fun _ => ?_⟩
      rw [ixad (show x + k < 5000 by omega), ixad (show y + k < 5000 by omega), tn, tn, w32_s (i := k) (by omega), g2 (x + k) (by omega)]
      refine ⟨⟨by omega, by omega⟩, ⟨by omega, by omega⟩, ih _ (fun c q => (upm_off c q).trans (g1 c q)) (fun j q => by rw [upm_k (by omega)]; exact g2 j q) (fun i hi => ?_)⟩
      by_cases c : i = k
      · rw [c, upm_s]
      · rw [upm_k (by omega)]; exact g3 i (by omega)
  exact wqA 0 (Nat.zero_le _) V (fun _ _ => rfl) (fun _ _ => rfl) (fun i hi => absurd hi (Nat.not_lt_zero i))
theorem ix206 {k : Nat} (h : k ≤ 16) : w32 (206 * w32 (5 + (k : Int))) = ((206 * (5 + k) : Nat) : Int) := by rw [w32_id (x := 5 + (k : Int)) (by omega) (by omega), w32_id (by omega) (by omega)]; omega
theorem ix206p {k : Nat} (h : k < 16) : w32 (206 * w32 (w32 (5 + ((k + 1 : Nat) : Int)) - 1)) = ((206 * (5 + k) : Nat) : Int) := by rw [w32_id (x := 5 + ((k + 1 : Nat) : Int)) (by omega) (by omega), w32_id (x := 5 + ((k + 1 : Nat) : Int) - 1) (by omega) (by omega), w32_id (by omega) (by omega)]; omega
/-- the reference keeps the state: N of the old ones behind the oldest sh, and one more -/
def KpAd (V V' : Mem) (N sh : Nat) : Prop := V' 369 18 = ((N + 1 : Nat) : Int) ∧ (∀ j, j ≠ 18 → V' 369 j = V 369 j) ∧ (∀ c, c ≠ 369 → c ≠ 381 → V' c = V c) ∧ (∀ j, j < 1030 ∨ 4326 ≤ j → V' 381 j = V 381 j) ∧ (∀ k i, k < N → i < 181 → V' 381 (206 * (5 + k) + i) = V 381 (206 * (5 + (k + sh)) + i)) ∧ ∀ i, i < 181 → V' 381 (206 * (5 + N) + i) = V 381 i
theorem m_keeps {U : Nat} (hU : V 369 18 = U) (hU2 : U ≤ 16) : Mv K (d + 1) mX12_keeps [vR 369] V (fun V' => KpAd V V' (if U = 16 then U - 1 else U) (if U = 16 then 1 else 0)) := by
  have fin : ∀ (V1 : Mem) (N : Nat), V1 369 18 = N → N < 16 → ∀ T : Mem → Prop, (∀ V2, KpAd V1 V2 N 0 → T V2) → Mf K d mX12_moves [vR 369, vI 0, vI (w32 (206 * (w32 (5 + (V1 369 18))))), vI 181] V1 (fun r V2 => r = none ∧ T (upm V2 369 18 (w32 ((V2 369 18) + 1)))) := by
    intro V1 N hN hlt T hT
    rw [hN, ix206 (show N ≤ 16 by omega)]
    refine Mv.use (m_moves (d := d) (V := V1) (x := 0) (y := 206 * (5 + N)) (m := 181) (by omega) (by omega) (by omega)) (fun V2 ⟨k1, k2, k3⟩ => hT _ ⟨?_, fun j q => ?_, fun c q1 q2 => ?_, fun j q => ?_, fun k i q1 q2 => ?_, fun i q => ?_⟩)
    · rw [upm_s, k1 369 (by decide), hN, w32_s (by omega)]
    · rw [upm_k q, k1 369 (by decide)]
    · rw [upm_off c q1, k1 c q2]
    · rw [upm_a (by decide), k2 j (by omega)]
    · rw [upm_a (by decide), k2 _ (by omega)]; rfl
    · rw [upm_a (by decide), k3 i q, Nat.zero_add]
  refine sX12_keeps ⟨fun c => ?_, fun c => ?_⟩
  · rw [if_neg (by omega), if_neg (by omega)]
    exact fin V U hU (by omega) (fun V' => (none : Option AV) = none ∧ KpAd V V' U 0) (fun V2 h => ⟨rfl, h⟩)
  · have e : U = 16 := by omega
    subst e
    rw [if_pos rfl, if_pos rfl]
    have wqA : ∀ k : Nat, k ≤ 16 → 1 ≤ k → ∀ V' : Mem, (∀ c, c ≠ 381 → V' c = V c) → (∀ j, j < 1030 ∨ 206 * (5 + (k - 1)) ≤ j → V' 381 j = V 381 j) → (∀ u i, u + 1 < k → i < 181 → V' 381 (206 * (5 + u) + i) = V 381 (206 * (5 + (u + 1)) + i)) → Wf K (d + 1) mX12_keeps 11 [some (vR 369), some (vI (k : Int))] [] V' (fun r V' => r = none ∧ KpAd V V' 15 1) := by
      refine up_ind ?_ ?_
      · intro _ V' g1 g2 g3
        have e18 : w32 (V' 369 18 - 1) = ((15 : Nat) : Int) := by rw [g1 369 (by decide), hU]; decide
        refine sX12_keeps_11 _ ⟨fun _ => ?_, fun c => absurd (by decide) c⟩
        rw [e18]
        refine fin (upm V' 369 18 ((15 : Nat) : Int)) 15 (upm_s _ _ _ _) (by decide) (fun V2 => (none : Option AV) = none ∧ KpAd V V2 15 1) (fun V2 h => ⟨rfl, ?_⟩)
        obtain ⟨a1, a2, a3, a4, a5, a6⟩ := h
        refine ⟨a1, fun j q => by rw [a2 j q, upm_k q, g1 369 (by decide)], fun c q1 q2 => by rw [a3 c q1 q2, upm_off c q1, g1 c q2], fun j q => by rw [a4 j q, upm_a (by decide), g2 j (by omega)], fun k i q1 q2 => by rw [a5 k i q1 q2, upm_a (by decide)]; exact g3 k i (by omega) q2, fun i q => by rw [a6 i q, upm_a (by decide), g2 i (by omega)]⟩
      · intro k hk ih h1 V' g1 g2 g3
        obtain ⟨u, rfl⟩ : ∃ u, k = u + 1 := ⟨k - 1, by omega⟩
        refine sX12_keeps_11 _ ⟨fun c => by omega, fun _ => ?_⟩
        rw [ix206 (show u + 1 ≤ 16 by omega), ix206p (show u < 16 by omega), w32_s (i := u + 1) (by omega)]
        refine (m_moves (d := d) (V := V') (x := 206 * (5 + (u + 1))) (y := 206 * (5 + u)) (m := 181) (by omega) (by omega) (by omega)).use (fun V2 ⟨k1, k2, k3⟩ => ?_)
        refine ih (by omega) V2 (fun c q => by rw [k1 c q]; exact g1 c q) (fun j q => by rw [k2 j (by omega)]; exact g2 j (by omega)) (fun w i q1 q2 => ?_)
        by_cases c : w = u
        · rw [c, k3 i q2, g2 _ (by omega)]
        · rw [k2 _ (by omega)]; exact g3 w i (by omega) q2
    exact wqA 1 (by decide) (Nat.le_refl _) V (fun _ _ => rfl) (fun _ _ => rfl) (fun u i h => by omega)
end CCP
