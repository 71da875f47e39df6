/-! ===== mathematics of braids: tables of counts, their (min,+) product ===== -/
/-- strands s of i .. i+f-1 that end before k -/
def cn2 (e : Nat → Int) (k : Nat) : Nat → Nat → Nat
  | _, 0 => 0
  | i, f + 1 => (if e i < (k : Int) then 1 else 0) + cn2 e k (i + 1) f
def ctn (e : Nat → Int) (n i k : Nat) : Nat := cn2 e k i (n - i)
theorem ctn_n {e : Nat → Int} {n k : Nat} : ctn e n n k = 0 := by unfold ctn; rw [Nat.sub_self]; rfl
theorem ctn_s {e : Nat → Int} {n i k : Nat} (h : i < n) : ctn e n i k = (if e i < (k : Int) then 1 else 0) + ctn e n (i + 1) k := by
  unfold ctn
  rw [show n - i = (n - (i + 1)) + 1 by omega]
  rfl
theorem cn2_le {e : Nat → Int} {k : Nat} : ∀ f i, cn2 e k i f ≤ f
  | 0, _ => Nat.le_refl 0
  | f + 1, i => by
    have := cn2_le (e := e) (k := k) f (i + 1)
    unfold cn2
    split <;> omega
theorem ctn_le {e : Nat → Int} {n i k : Nat} : ctn e n i k ≤ n - i := cn2_le _ _
theorem cn2_congr {e e2 : Nat → Int} {k : Nat} : ∀ f i, (∀ s, i ≤ s → s < i + f → e s = e2 s) → cn2 e k i f = cn2 e2 k i f
  | 0, _, _ => rfl
  | f + 1, i, h => by
    unfold cn2
    rw [h i (Nat.le_refl _) (by omega), cn2_congr f (i + 1) (fun s h1 h2 => h s (by omega) (by omega))]
theorem ctn_congr {e e2 : Nat → Int} {n i k : Nat} (h : ∀ s, s < n → e s = e2 s) (hi : i ≤ n) : ctn e n i k = ctn e2 n i k := cn2_congr _ _ (fun s _ h2 => h s (by omega))
/-- a permutation of 0 .. n-1 -/
def PermOK (e : Nat → Int) (n : Nat) : Prop := (∀ s, s < n → 0 ≤ e s ∧ e s < n) ∧ (∀ s t, s < n → t < n → e s = e t → s = t) ∧ ∀ v : Nat, v < n → ∃ s, s < n ∧ e s = (v : Int)
theorem PermOK.congr {e e2 : Nat → Int} {n : Nat} (h : PermOK e n) (he : ∀ s, s < n → e2 s = e s) : PermOK e2 n := by
  refine ⟨fun s hs => by rw [he s hs]; exact h.1 s hs, fun s t hs ht q => ?_, fun v hv => ?_⟩
  · rw [he s hs, he t ht] at q
    exact h.2.1 s t hs ht q
  · obtain ⟨s, h1, h2⟩ := h.2.2 v hv
    exact ⟨s, h1, by rw [he s h1]; exact h2⟩
/-- a table of counts of a permutation (unit-Monge) -/
def UMt (n : Nat) (A : Nat → Nat → Nat) : Prop := (∀ k, k ≤ n → A n k = 0) ∧ (∀ i, i ≤ n → A i 0 = 0) ∧ (∀ k, k ≤ n → A 0 k = k) ∧ (∀ i, i ≤ n → A i n + i = n) ∧ ∀ i k, i < n → k < n → A (i + 1) (k + 1) + A i k ≤ A i (k + 1) + A (i + 1) k
theorem ctn_step {e : Nat → Int} {n : Nat} (h : PermOK e n) {s0 j : Nat} (h0 : s0 < n) (hj : e s0 = (j : Int)) : ∀ f i, i + f = n → ctn e n i (j + 1) = ctn e n i j + (if i ≤ s0 then 1 else 0)
  | 0, i, hi => by
    rw [show i = n by omega, ctn_n, ctn_n, if_neg (by omega)]
  | f + 1, i, hi => by
    have ih := ctn_step h h0 hj f (i + 1) (by omega)
    rw [ctn_s (i := i) (k := j + 1) (by omega), ctn_s (i := i) (k := j) (by omega), ih]
    generalize ctn e n (i + 1) j = z
    by_cases c : i = s0
    · subst c
      rw [if_pos (by omega), if_neg (by omega), if_neg (by omega), if_pos (Nat.le_refl _)]
      omega
    · have ne : e i ≠ (j : Int) := fun q => c (h.2.1 i s0 (by omega) h0 (q.trans hj.symm))
      by_cases c2 : e i < (j : Int)
      · rw [if_pos (show e i < ((j + 1 : Nat) : Int) by omega), if_pos c2]
        by_cases c3 : i ≤ s0
        · rw [if_pos c3, if_pos (by omega)]; omega
        · rw [if_neg c3, if_neg (by omega)]; omega
      · rw [if_neg (show ¬ e i < ((j + 1 : Nat) : Int) by omega), if_neg c2]
        by_cases c3 : i ≤ s0
        · rw [if_pos c3, if_pos (by omega)]; omega
        · rw [if_neg c3, if_neg (by omega)]; omega
theorem cn2_zero {e : Nat → Int} : ∀ f i, (∀ s, i ≤ s → s < i + f → 0 ≤ e s) → cn2 e 0 i f = 0
  | 0, _, _ => rfl
  | f + 1, i, h => by
    have h1 := h i (Nat.le_refl _) (by omega)
    unfold cn2
    rw [if_neg (by omega), cn2_zero f (i + 1) (fun s a b => h s (by omega) (by omega))]
theorem cn2_full {e : Nat → Int} {n : Nat} : ∀ f i, (∀ s, i ≤ s → s < i + f → e s < (n : Int)) → cn2 e n i f = f
  | 0, _, _ => rfl
  | f + 1, i, h => by
    have h1 := h i (Nat.le_refl _) (by omega)
    unfold cn2
    rw [if_pos h1, cn2_full f (i + 1) (fun s a b => h s (by omega) (by omega))]
    omega
theorem ctn_UM {e : Nat → Int} {n : Nat} (h : PermOK e n) : UMt n (ctn e n) := by
  have z0 : ∀ i, i ≤ n → ctn e n i 0 = 0 := fun i hi => cn2_zero _ _ (fun s _ h2 => (h.1 s (by omega)).1)
  refine ⟨fun k _ => ctn_n, z0, ?_, fun i hi => ?_, fun i k hi hk => ?_⟩
  · intro k
    induction k with
    | zero => intro _; exact z0 0 (Nat.zero_le _)
    | succ j ih =>
      intro hj
      obtain ⟨s0, a1, a2⟩ := h.2.2 j (by omega)
      rw [ctn_step h a1 a2 n 0 (by omega), ih (by omega), if_pos (Nat.zero_le _)]
  · have : ctn e n i n = n - i := cn2_full _ _ (fun s _ h2 => (h.1 s (by omega)).2)
    omega
  · rw [ctn_s hi, ctn_s hi]
    generalize ctn e n (i + 1) k = x
    generalize ctn e n (i + 1) (k + 1) = y
    by_cases c : e i < (k : Int)
    · rw [if_pos c, if_pos (by omega)]; omega
    · rw [if_neg c]; omega
theorem UMt.r1 {n : Nat} {A : Nat → Nat → Nat} (h : UMt n A) {i : Nat} (hi : i < n) : ∀ d k, k + d ≤ n → A (i + 1) (k + d) + A i k ≤ A i (k + d) + A (i + 1) k
  | 0, k, _ => by show A (i + 1) k + A i k ≤ A i k + A (i + 1) k; omega
  | d + 1, k, hk => by
    have ih := UMt.r1 h hi d k (by omega)
    have hs := h.2.2.2.2 i (k + d) hi (by omega)
    show A (i + 1) (k + d + 1) + A i k ≤ A i (k + d + 1) + A (i + 1) k
    omega
theorem UMt.r2 {n : Nat} {A : Nat → Nat → Nat} (h : UMt n A) {k k2 : Nat} (hk : k ≤ k2) (hk2 : k2 ≤ n) : ∀ d i, i + d ≤ n → A (i + d) k2 + A i k ≤ A i k2 + A (i + d) k
  | 0, i, _ => by show A i k2 + A i k ≤ A i k2 + A i k; omega
  | d + 1, i, hi => by
    have ih := UMt.r2 h hk hk2 d i (by omega)
    have hs := h.r1 (i := i + d) (by omega) (k2 - k) k (by omega)
    rw [show k + (k2 - k) = k2 by omega] at hs
    show A (i + d + 1) k2 + A i k ≤ A i k2 + A (i + d + 1) k
    omega
/-- Monge, at large -/
theorem UMt.mg {n : Nat} {A : Nat → Nat → Nat} (h : UMt n A) {i i2 k k2 : Nat} (hi : i ≤ i2) (hi2 : i2 ≤ n) (hk : k ≤ k2) (hk2 : k2 ≤ n) : A i2 k2 + A i k ≤ A i k2 + A i2 k := by
  have := h.r2 hk hk2 (i2 - i) i (by omega)
  rw [show i + (i2 - i) = i2 by omega] at this
  exact this
theorem UMt.lo {n : Nat} {A : Nat → Nat → Nat} (h : UMt n A) {i j : Nat} (hi : i ≤ n) (hj : j ≤ n) : j ≤ A i j + i := by
  have h1 := h.mg (Nat.zero_le i) hi hj (Nat.le_refl n)
  rw [h.2.2.1 j hj, h.2.2.1 n (Nat.le_refl n)] at h1
  have h2 := h.2.2.2.1 i hi
  omega
theorem UMt.up {n : Nat} {A : Nat → Nat → Nat} (h : UMt n A) {i j : Nat} (hi : i ≤ n) (hj : j ≤ n) : A i j ≤ n := by
  have h1 := h.mg hi (Nat.le_refl n) hj (Nat.le_refl n)
  rw [h.1 n (Nat.le_refl n), h.1 j hj] at h1
  have h2 := h.2.2.2.1 i hi
  omega
/-- the least of f 0 .. f m -/
def mnk (f : Nat → Nat) : Nat → Nat
  | 0 => f 0
  | j + 1 => min (mnk f j) (f (j + 1))
theorem mnk_le {f : Nat → Nat} : ∀ m j, j ≤ m → mnk f m ≤ f j
  | 0, j, h => by rw [show j = 0 by omega]; exact Nat.le_refl _
  | m + 1, j, h => by
    unfold mnk
    by_cases c : j = m + 1
    · subst c; exact Nat.min_le_right _ _
    · exact Nat.le_trans (Nat.min_le_left _ _) (mnk_le m j (by omega))
theorem mnk_at {f : Nat → Nat} : ∀ m, ∃ j, j ≤ m ∧ mnk f m = f j
  | 0 => ⟨0, Nat.le_refl _, rfl⟩
  | m + 1 => by
    obtain ⟨j, h1, h2⟩ := mnk_at (f := f) m
    by_cases c : mnk f m ≤ f (m + 1)
    · exact ⟨j, by omega, by unfold mnk; rw [Nat.min_eq_left c]; exact h2⟩
    · exact ⟨m + 1, Nat.le_refl _, by unfold mnk; rw [Nat.min_eq_right (by omega)]⟩
theorem mnk_congr {f g : Nat → Nat} : ∀ m, (∀ j, j ≤ m → f j = g j) → mnk f m = mnk g m
  | 0, h => h 0 (Nat.le_refl _)
  | m + 1, h => by
    unfold mnk
    rw [mnk_congr m (fun j hj => h j (by omega)), h (m + 1) (Nat.le_refl _)]
/-- the product of two tables -/
def mpr (n : Nat) (A B : Nat → Nat → Nat) (i k : Nat) : Nat := mnk (fun j => A i j + B j k) n
theorem mpr_UM {n : Nat} {A B : Nat → Nat → Nat} (hA : UMt n A) (hB : UMt n B) : UMt n (mpr n A B) := by
  have le : ∀ i k j, j ≤ n → mpr n A B i k ≤ A i j + B j k := fun i k j hj => mnk_le n j hj
  have att : ∀ i k, ∃ j, j ≤ n ∧ mpr n A B i k = A i j + B j k := fun i k => mnk_at n
  refine ⟨fun k hk => ?_, fun i hi => ?_, fun k hk => ?_, fun i hi => ?_, fun i k hi hk => ?_⟩
  · have := le n k n (Nat.le_refl n)
    rw [hA.1 n (Nat.le_refl n), hB.1 k hk] at this
    omega
  · have := le i 0 0 (Nat.zero_le n)
    rw [hA.2.1 i hi, hB.2.1 0 (Nat.zero_le n)] at this
    omega
  · have h1 := le 0 k 0 (Nat.zero_le n)
    rw [hA.2.1 0 (Nat.zero_le n), hB.2.2.1 k hk] at h1
    obtain ⟨j, h2, h3⟩ := att 0 k
    rw [hA.2.2.1 j h2] at h3
    have h4 := hB.lo h2 hk
    omega
  · have h1 := le i n n (Nat.le_refl n)
    rw [hB.1 n (Nat.le_refl n)] at h1
    have h5 := hA.2.2.2.1 i hi
    obtain ⟨j, h2, h3⟩ := att i n
    have h4 := hA.lo hi h2
    have h6 := hB.2.2.2.1 j h2
    omega
  · obtain ⟨j, j1, j2⟩ := att i (k + 1)
    obtain ⟨l, l1, l2⟩ := att (i + 1) k
    rw [j2, l2]
    rcases Nat.le_total l j with c | c
    · have h1 := le (i + 1) (k + 1) j j1
      have h2 := le i k l l1
      have h3 := hA.mg (i := i) (i2 := i + 1) (k := l) (k2 := j) (by omega) (by omega) c j1
      omega
    · have h1 := le (i + 1) (k + 1) l l1
      have h2 := le i k j j1
      have h3 := hB.mg (i := j) (i2 := l) (k := k) (k2 := k + 1) c l1 (by omega) (by omega)
      omega
/-- the unit of a table -/
def utn (C : Nat → Nat → Nat) (i k : Nat) : Int := (C i (k + 1) : Int) - C (i + 1) (k + 1) - C i k + C (i + 1) k
def sIn (u : Nat → Int) : Nat → Int
  | 0 => 0
  | m + 1 => sIn u m + u m
theorem sIn_0 {u : Nat → Int} : ∀ m, (∀ k, k < m → 0 ≤ u k) → 0 ≤ sIn u m ∧ (sIn u m = 0 → ∀ k, k < m → u k = 0)
  | 0, _ => ⟨Int.le_refl _, fun _ k h => absurd h (Nat.not_lt_zero k)⟩
  | m + 1, h => by
    obtain ⟨h1, h2⟩ := sIn_0 m (fun k hk => h k (by omega))
    have h3 := h m (by omega)
    have e : sIn u (m + 1) = sIn u m + u m := rfl
    refine ⟨by omega, fun q k hk => ?_⟩
    by_cases c : k = m
    · subst c; omega
    · exact h2 (by omega) k (by omega)
theorem sIn_1 {u : Nat → Int} : ∀ m, (∀ k, k < m → 0 ≤ u k) → sIn u m = 1 → ∃ r, r < m ∧ u r = 1 ∧ ∀ k, k < m → k ≠ r → u k = 0
  | 0, _, q => by cases q
  | m + 1, h, q => by
    have e : sIn u (m + 1) = sIn u m + u m := rfl
    obtain ⟨h1, h2⟩ := sIn_0 m (fun k hk => h k (by omega))
    have h3 := h m (by omega)
    by_cases c : sIn u m = 0
    · exact ⟨m, by omega, by omega, fun k hk hn => h2 c k (by omega)⟩
    · obtain ⟨r, r1, r2, r3⟩ := sIn_1 m (fun k hk => h k (by omega)) (by omega)
      refine ⟨r, by omega, r2, fun k hk hn => ?_⟩
      by_cases c2 : k = m
      · subst c2; omega
      · exact r3 k (by omega) hn
theorem sIn_tel {u f : Nat → Int} : ∀ m, (∀ k, k < m → u k = f (k + 1) - f k) → sIn u m = f m - f 0
  | 0, _ => by show (0 : Int) = _; omega
  | m + 1, h => by
    have e : sIn u (m + 1) = sIn u m + u m := rfl
    rw [e, sIn_tel m (fun k hk => h k (by omega)), h m (by omega)]
    omega
theorem utn_nn {n : Nat} {C : Nat → Nat → Nat} (h : UMt n C) {i k : Nat} (hi : i < n) (hk : k < n) : 0 ≤ utn C i k := by
  have := h.2.2.2.2 i k hi hk
  unfold utn
  omega
theorem utn_row {n : Nat} {C : Nat → Nat → Nat} (h : UMt n C) {i : Nat} (hi : i < n) : ∃ r, r < n ∧ utn C i r = 1 ∧ ∀ k, k < n → k ≠ r → utn C i k = 0 := by
  refine sIn_1 n (fun k hk => utn_nn h hi hk) ?_
  rw [sIn_tel (f := fun k => (C i k : Int) - C (i + 1) k) n (fun k _ => by unfold utn; show _ = ((C i (k + 1) : Int) - C (i + 1) (k + 1)) - ((C i k : Int) - C (i + 1) k); omega)]
  have h1 := h.2.2.2.1 i (by omega)
  have h2 := h.2.2.2.1 (i + 1) (by omega)
  have h3 := h.2.1 i (by omega)
  have h4 := h.2.1 (i + 1) (by omega)
  show ((C i n : Int) - C (i + 1) n) - ((C i 0 : Int) - C (i + 1) 0) = 1
  omega
theorem utn_col {n : Nat} {C : Nat → Nat → Nat} (h : UMt n C) {k : Nat} (hk : k < n) : ∃ r, r < n ∧ utn C r k = 1 ∧ ∀ i, i < n → i ≠ r → utn C i k = 0 := by
  refine sIn_1 n (fun i hi => utn_nn h hi hk) ?_
  rw [sIn_tel (f := fun i => (C i k : Int) - C i (k + 1)) n (fun i _ => by unfold utn; show _ = ((C (i + 1) k : Int) - C (i + 1) (k + 1)) - ((C i k : Int) - C i (k + 1)); omega)]
  have h1 := h.1 k (by omega)
  have h2 := h.1 (k + 1) (by omega)
  have h3 := h.2.2.1 k (by omega)
  have h4 := h.2.2.1 (k + 1) (by omega)
  show ((C n k : Int) - C n (k + 1)) - ((C 0 k : Int) - C 0 (k + 1)) = 1
  omega
theorem sfk_one {u : Nat → Int} {r : Nat} (h : u r = 1) : ∀ f k, k ≤ r → r < k + f → (∀ j, k ≤ j → j < r → u j ≠ 1) → sfk u k f = (r : Int)
  | 0, k, h1, h2, _ => by omega
  | f + 1, k, h1, h2, h3 => by
    unfold sfk
    by_cases c : k = r
    · subst c; rw [if_pos h]
    · rw [if_neg (h3 k (Nat.le_refl _) (by omega))]
      exact sfk_one h f (k + 1) (by omega) (by omega) (fun j a b => h3 j (by omega) b)
/-- where the strands of the composed braid end -/
def cmp (n : Nat) (a b : Nat → Int) (i : Nat) : Int := sfk (utn (mpr n (ctn a n) (ctn b n)) i) 0 n
theorem cmp_at {n : Nat} {a b : Nat → Int} (ha : PermOK a n) (hb : PermOK b n) {i : Nat} (hi : i < n) : ∃ r : Nat, cmp n a b i = (r : Int) ∧ r < n ∧ utn (mpr n (ctn a n) (ctn b n)) i r = 1 ∧ ∀ k, k < n → k ≠ r → utn (mpr n (ctn a n) (ctn b n)) i k = 0 := by
  obtain ⟨r, r1, r2, r3⟩ := utn_row (mpr_UM (ctn_UM ha) (ctn_UM hb)) hi
  refine ⟨r, sfk_one r2 n 0 (Nat.zero_le _) (by omega) (fun j _ h => ?_), r1, r2, r3⟩
  rw [r3 j (by omega) (by omega)]
  decide
theorem cmp_perm {n : Nat} {a b : Nat → Int} (ha : PermOK a n) (hb : PermOK b n) : PermOK (cmp n a b) n := by
  have hU := mpr_UM (ctn_UM ha) (ctn_UM hb)
  refine ⟨fun s hs => ?_, fun s t hs ht q => ?_, fun v hv => ?_⟩
  · obtain ⟨r, r1, r2, -⟩ := cmp_at ha hb hs
    omega
  · obtain ⟨r, r1, r2, r3, -⟩ := cmp_at ha hb hs
    obtain ⟨r', p1, p2, p3, -⟩ := cmp_at ha hb ht
    have e : r' = r := by omega
    subst e
    obtain ⟨w, w1, w2, w3⟩ := utn_col hU r2
    have k1 : s = w := Decidable.byContradiction (fun c => by have := w3 s hs c; omega)
    have k2 : t = w := Decidable.byContradiction (fun c => by have := w3 t ht c; omega)
    omega
  · obtain ⟨w, w1, w2, w3⟩ := utn_col hU hv
    refine ⟨w, w1, ?_⟩
    obtain ⟨r, r1, r2, r3, r4⟩ := cmp_at ha hb w1
    rw [r1]
    exact congrArg _ (Decidable.byContradiction (fun c => by have := r4 v hv (fun q => c q.symm); omega))
theorem mpr_congr {n : Nat} {A A2 B B2 : Nat → Nat → Nat} {i k : Nat} (h1 : ∀ j, j ≤ n → A i j = A2 i j) (h2 : ∀ j, j ≤ n → B j k = B2 j k) : mpr n A B i k = mpr n A2 B2 i k := mnk_congr n (fun j hj => by rw [h1 j hj, h2 j hj])
theorem cmp_congr {n : Nat} {a a2 b b2 : Nat → Int} (h1 : ∀ s, s < n → a s = a2 s) (h2 : ∀ s, s < n → b s = b2 s) {i : Nat} (hi : i < n) : cmp n a b i = cmp n a2 b2 i := by
  have e : ∀ i, i ≤ n → ∀ k, mpr n (ctn a n) (ctn b n) i k = mpr n (ctn a2 n) (ctn b2 n) i k := fun i hi k => mpr_congr (fun j _ => ctn_congr h1 hi) (fun j hj => ctn_congr h2 hj)
  unfold cmp
  refine sfk_congr n 0 n (by omega) (fun j _ => ?_)
  unfold utn
  rw [e i (by omega), e (i + 1) (by omega), e i (by omega), e (i + 1) (by omega)]
/-- crossings: pairs of strands of which the later ends before the earlier -/
def crI (e : Nat → Int) (s : Nat) : Nat → Nat
  | 0 => 0
  | q + 1 => crI e s q + (if e s < e q then 1 else 0)
def crO (e : Nat → Int) : Nat → Nat
  | 0 => 0
  | s + 1 => crO e s + crI e s s
theorem crI_le {e : Nat → Int} {s : Nat} : ∀ q, crI e s q ≤ q
  | 0 => Nat.le_refl 0
  | q + 1 => by
    have := crI_le (e := e) (s := s) q
    unfold crI
    split <;> omega
theorem crO_le {e : Nat → Int} : ∀ s, s ≤ 10 → crO e s ≤ 10 * s
  | 0, _ => Nat.le_refl 0
  | s + 1, h => by
    have := crO_le (e := e) s (by omega)
    have := crI_le (e := e) (s := s) s
    unfold crO
    omega
theorem crI_congr {e e2 : Nat → Int} {n s : Nat} (h : ∀ s, s < n → e s = e2 s) (hs : s < n) : ∀ q, q ≤ s → crI e s q = crI e2 s q
  | 0, _ => rfl
  | q + 1, hq => by
    unfold crI
    rw [crI_congr h hs q (by omega), h s hs, h q (by omega)]
theorem crO_congr {e e2 : Nat → Int} {n : Nat} (h : ∀ s, s < n → e s = e2 s) : ∀ s, s ≤ n → crO e s = crO e2 s
  | 0, _ => rfl
  | s + 1, hs => by
    unfold crO
    rw [crO_congr h s (by omega), crI_congr h (by omega) s (Nat.le_refl _)]
