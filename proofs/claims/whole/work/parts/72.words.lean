/-! ===== words, by fives and by sevens ===== -/
theorem lc0 {x y : Int} : b_lcmp x y = 0 ↔ x = y := by
  unfold b_lcmp
  by_cases c : x > y
  · rw [if_pos c]
    exact ⟨fun q => absurd q (by decide), fun q => by omega⟩
  · rw [if_neg c]
    by_cases c2 : x = y
    · rw [if_pos c2]
      exact ⟨fun _ => c2, fun _ => rfl⟩
    · rw [if_neg c2]
      exact ⟨fun q => absurd q (by decide), fun q => absurd q c2⟩
theorem pkw_congr {b : Int} {c c' : Nat → Int} : ∀ l, (∀ i, i < l → c i = c' i) → pkw b c l = pkw b c' l
  | 0, _ => rfl
  | l + 1, h => by
    show pkw b c l * b + c l = pkw b c' l * b + c' l
    rw [pkw_congr l (fun i hi => h i (by omega)), h l (by omega)]
theorem dg_inj {b z z' x x' : Int} (hb : 27 ≤ b) (hx : 1 ≤ x ∧ x ≤ 26) (hx' : 1 ≤ x' ∧ x' ≤ 26) (h : z * b + x = z' * b + x') : z = z' ∧ x = x' := by
  have e : z = z' := by
    rcases Int.lt_trichotomy z z' with q | q | q
    · have := Int.mul_le_mul_of_nonneg_right (show z + 1 ≤ z' by omega) (show 0 ≤ b by omega)
      rw [Int.add_mul, Int.one_mul] at this
      generalize z * b = u at *
      generalize z' * b = v at *
      omega
    · exact q
    · have := Int.mul_le_mul_of_nonneg_right (show z' + 1 ≤ z by omega) (show 0 ≤ b by omega)
      rw [Int.add_mul, Int.one_mul] at this
      generalize z * b = u at *
      generalize z' * b = v at *
      omega
  subst e
  exact ⟨rfl, by omega⟩
theorem pkw_pos {b : Int} {c : Nat → Int} (hb : 27 ≤ b) {l : Nat} (h : ∀ i, i < l + 1 → 1 ≤ c i ∧ c i ≤ 26) : 0 < pkw b c (l + 1) := by
  have h1 := pkw_r (b := b) (c := c) (lo := 1) (hi := 26) (by omega) (by omega) (by omega) l (fun i hi => h i (by omega))
  have h2 := h l (by omega)
  have h3 : 0 ≤ pkw b c l * b := Int.mul_nonneg h1.1 (by omega)
  show 0 < pkw b c l * b + c l
  generalize pkw b c l * b = z at *
  omega
theorem pkw_inj {b : Int} (hb : 27 ≤ b) : ∀ (l l' : Nat) (c c' : Nat → Int), (∀ i, i < l → 1 ≤ c i ∧ c i ≤ 26) → (∀ i, i < l' → 1 ≤ c' i ∧ c' i ≤ 26) → pkw b c l = pkw b c' l' → l = l' ∧ ∀ i, i < l → c i = c' i
  | 0, 0, _, _, _, _, _ => ⟨rfl, fun i hi => by omega⟩
  | 0, l' + 1, c, c', _, h', h => by
    have := pkw_pos hb h'
    rw [← h] at this
    exact absurd this (Int.lt_irrefl 0)
  | l + 1, 0, c, c', h1, _, h => by
    have := pkw_pos hb h1
    rw [h] at this
    exact absurd this (Int.lt_irrefl 0)
  | l + 1, l' + 1, c, c', h1, h2, h => by
    obtain ⟨e1, e2⟩ := dg_inj hb (h1 l (by omega)) (h2 l' (by omega)) h
    obtain ⟨e3, e4⟩ := pkw_inj hb l l' c c' (fun i hi => h1 i (by omega)) (fun i hi => h2 i (by omega)) e1
    refine ⟨by omega, fun i hi => ?_⟩
    by_cases e : i = l
    · rw [e, e2, e3]
    · exact e4 i (by omega)
theorem nm_iff {x y x' y' : Int} (h : nmC x y) (h' : nmC x' y') : x = x' ↔ y = y' := by
  obtain ⟨l, c, _, _, a3, a4, a5⟩ := h
  obtain ⟨l', c', _, _, b3, b4, b5⟩ := h'
  rw [a4, a5, b4, b5]
  constructor
  · intro q
    obtain ⟨e1, e2⟩ := pkw_inj (by decide) l l' c c' a3 b3 q
    rw [← e1]
    exact pkw_congr l e2
  · intro q
    obtain ⟨e1, e2⟩ := pkw_inj (by decide) l l' c c' a3 b3 q
    rw [← e1]
    exact pkw_congr l e2
theorem kwc0 : nmC (kw32 0) (kw37 0) := ⟨3, fun i => [18, 15, 23].getD i 0, by decide, by decide, by decide, by decide, by decide⟩
theorem kwc1 : nmC (kw32 1) (kw37 1) := ⟨5, fun i => [2, 18, 1, 9, 4].getD i 0, by decide, by decide, by decide, by decide, by decide⟩
theorem kwc2 : nmC (kw32 2) (kw37 2) := ⟨6, fun i => [23, 5, 9, 7, 8, 19].getD i 0, by decide, by decide, by decide, by decide, by decide⟩
theorem kwc3 : nmC (kw32 3) (kw37 3) := ⟨6, fun i => [1, 16, 16, 5, 14, 4].getD i 0, by decide, by decide, by decide, by decide, by decide⟩
theorem kwc4 : nmC (kw32 4) (kw37 4) := ⟨3, fun i => [3, 21, 20].getD i 0, by decide, by decide, by decide, by decide, by decide⟩
theorem kwc5 : nmC (kw32 5) (kw37 5) := ⟨4, fun i => [20, 21, 18, 14].getD i 0, by decide, by decide, by decide, by decide, by decide⟩
theorem kwc6 : nmC (kw32 6) (kw37 6) := ⟨5, fun i => [3, 18, 15, 19, 19].getD i 0, by decide, by decide, by decide, by decide, by decide⟩
theorem kwc7 : nmC (kw32 7) (kw37 7) := ⟨4, fun i => [11, 5, 5, 16].getD i 0, by decide, by decide, by decide, by decide, by decide⟩
theorem kwc8 : nmC (kw32 8) (kw37 8) := ⟨6, fun i => [19, 20, 18, 9, 3, 20].getD i 0, by decide, by decide, by decide, by decide, by decide⟩
theorem kwc9 : nmC (kw32 9) (kw37 9) := ⟨4, fun i => [23, 5, 1, 11].getD i 0, by decide, by decide, by decide, by decide, by decide⟩
theorem kwc10 : nmC (kw32 10) (kw37 10) := ⟨4, fun i => [4, 15, 23, 14].getD i 0, by decide, by decide, by decide, by decide, by decide⟩
theorem kwc11 : nmC (kw32 11) (kw37 11) := ⟨4, fun i => [19, 9, 14, 11].getD i 0, by decide, by decide, by decide, by decide, by decide⟩
theorem kwc12 : nmC (kw32 12) (kw37 12) := ⟨3, fun i => [14, 15, 20].getD i 0, by decide, by decide, by decide, by decide, by decide⟩
theorem kwc13 : nmC (kw32 13) (kw37 13) := ⟨3, fun i => [1, 14, 4].getD i 0, by decide, by decide, by decide, by decide, by decide⟩
theorem kwc14 : nmC (kw32 14) (kw37 14) := ⟨2, fun i => [15, 18].getD i 0, by decide, by decide, by decide, by decide, by decide⟩
theorem kwc15 : nmC (kw32 15) (kw37 15) := ⟨6, fun i => [14, 21, 13, 2, 5, 18].getD i 0, by decide, by decide, by decide, by decide, by decide⟩
theorem kwc16 : nmC (kw32 16) (kw37 16) := ⟨5, fun i => [16, 12, 1, 3, 5].getD i 0, by decide, by decide, by decide, by decide, by decide⟩
theorem kwc17 : nmC (kw32 17) (kw37 17) := ⟨4, fun i => [13, 1, 14, 25].getD i 0, by decide, by decide, by decide, by decide, by decide⟩
theorem kwc18 : nmC (kw32 18) (kw37 18) := ⟨4, fun i => [11, 9, 14, 4].getD i 0, by decide, by decide, by decide, by decide, by decide⟩
theorem kw_nm {k : Nat} (h : k < 19) : nmC (kw32 k) (kw37 k) := by
  have e : k = 0 ∨ k = 1 ∨ k = 2 ∨ k = 3 ∨ k = 4 ∨ k = 5 ∨ k = 6 ∨ k = 7 ∨ k = 8 ∨ k = 9 ∨ k = 10 ∨ k = 11 ∨ k = 12 ∨ k = 13 ∨ k = 14 ∨ k = 15 ∨ k = 16 ∨ k = 17 ∨ k = 18 := by omega
  rcases e with rfl | rfl | rfl | rfl | rfl | rfl | rfl | rfl | rfl | rfl | rfl | rfl | rfl | rfl | rfl | rfl | rfl | rfl | rfl
  · exact kwc0
  · exact kwc1
  · exact kwc2
  · exact kwc3
  · exact kwc4
  · exact kwc5
  · exact kwc6
  · exact kwc7
  · exact kwc8
  · exact kwc9
  · exact kwc10
  · exact kwc11
  · exact kwc12
  · exact kwc13
  · exact kwc14
  · exact kwc15
  · exact kwc16
  · exact kwc17
  · exact kwc18
theorem kw_inj {i j : Nat} (hi : i < 19) (hj : j < 19) (h : kw32 i = kw32 j) : i = j := by
  have : ∀ i : Nat, i < 19 → ∀ j : Nat, j < 19 → kw32 i = kw32 j → i = j := by decide
  exact this i hi j hj h
theorem kcS_v {x : Int} : ∀ n, (kcS x n = 0 ∧ ∀ k, k < n → kw32 k ≠ x) ∨ ∃ k, k < n ∧ kw32 k = x ∧ kcS x n = 128 + (k : Int)
  | 0 => Or.inl ⟨rfl, fun k hk => by omega⟩
  | n + 1 => by
    have e : kcS x (n + 1) = if kw32 n = x then 128 + (n : Int) else kcS x n := rfl
    by_cases c : kw32 n = x
    · rw [e, if_pos c]
      exact Or.inr ⟨n, by omega, c, rfl⟩
    · rw [e, if_neg c]
      rcases kcS_v (x := x) n with ⟨h1, h2⟩ | ⟨k, h1, h2, h3⟩
      · refine Or.inl ⟨h1, fun k hk => ?_⟩
        by_cases q : k = n
        · rw [q]; exact c
        · exact h2 k (by omega)
      · exact Or.inr ⟨k, by omega, h2, h3⟩
/-! the token i -/
def gT (t : Nat → Int) (L i : Nat) : Nat := tkG t L (psT t L i)
def cT (t : Nat → Int) (L i : Nat) : Int := tkC t L (psT t L i)
def nT (t : Nat → Int) (L i : Nat) : Int := tkN t L (psT t L i)
def wT (b : Int) (t : Nat → Int) (L i : Nat) : Int := tkW b t L (psT t L i)
theorem tk2 {t : Nat → Int} {L p : Nat} (h : tkG t L p = 2) : p < L ∧ isLb (t p) = true ∧ rnK isLb t L p ≤ p + 8 := by
  unfold tkG at h
  by_cases c : L ≤ p
  · rw [if_pos c] at h; omega
  · rw [if_neg c] at h
    by_cases c2 : isLb (t p) = true
    · rw [if_pos c2] at h
      by_cases c3 : rnK isLb t L p ≤ p + 8
      · exact ⟨by omega, c2, c3⟩
      · rw [if_neg c3] at h; omega
    · rw [if_neg c2] at h
      split at h
      · split at h <;> omega
      · split at h <;> omega
theorem tk3 {t : Nat → Int} {L p : Nat} (h : tkG t L p = 3) : p < L ∧ isDb (t p) = true ∧ rnK isDb t L p ≤ p + 4 := by
  unfold tkG at h
  by_cases c : L ≤ p
  · rw [if_pos c] at h; omega
  · rw [if_neg c] at h
    by_cases c2 : isLb (t p) = true
    · rw [if_pos c2] at h
      split at h <;> omega
    · rw [if_neg c2] at h
      by_cases c3 : isDb (t p) = true
      · rw [if_pos c3] at h
        by_cases c4 : rnK isDb t L p ≤ p + 4
        · exact ⟨by omega, c3, c4⟩
        · rw [if_neg c4] at h; omega
      · rw [if_neg c3] at h
        split at h <;> omega
theorem tk4 {t : Nat → Int} {L p : Nat} (h : tkG t L p = 4) : p < L ∧ isSb (t p) = true := by
  unfold tkG at h
  by_cases c : L ≤ p
  · rw [if_pos c] at h; omega
  · rw [if_neg c] at h
    by_cases c2 : isLb (t p) = true
    · rw [if_pos c2] at h
      split at h <;> omega
    · rw [if_neg c2] at h
      by_cases c3 : isDb (t p) = true
      · rw [if_pos c3] at h
        split at h <;> omega
      · rw [if_neg c3] at h
        by_cases c4 : isSb (t p) = true
        · exact ⟨by omega, c4⟩
        · rw [if_neg c4] at h; omega
theorem tk0 {t : Nat → Int} {L p : Nat} : tkG t L p = 0 ↔ L ≤ p := by
  unfold tkG
  by_cases c : L ≤ p
  · rw [if_pos c]; exact ⟨fun _ => c, fun _ => rfl⟩
  · rw [if_neg c]
    refine ⟨fun q => ?_, fun q => absurd q c⟩
    split at q
    · split at q <;> omega
    · split at q
      · split at q <;> omega
      · split at q <;> omega
/-- a word, as both have it -/
theorem tk_nm {t : Nat → Int} {L p : Nat} (h : tkG t L p = 2) : nmC (tkW 32 t L p) (tkW 37 t L p) := by
  obtain ⟨h1, h2, h3⟩ := tk2 h
  have h4 := rnK_b (P := isLb) (t := t) (show p + 1 ≤ L by omega)
  have h5 := rnK_b (P := isLb) (t := t) (show p ≤ L by omega)
  have h6 := rnK_go h1 h2
  refine ⟨rnK isLb t L p - p, fun i => t (p + i) - 96, by omega, by omega, fun i hi => ?_, rfl, rfl⟩
  have : 97 ≤ t (p + i) ∧ t (p + i) ≤ 122 := of_decide_eq_true (h5.2.2 (p + i) (by omega) (by omega))
  show 1 ≤ t (p + i) - 96 ∧ t (p + i) - 96 ≤ 26
  omega
theorem tk_n {t : Nat → Int} {L p : Nat} (h : tkG t L p = 3) : 0 ≤ tkN t L p ∧ tkN t L p ≤ 9999 := by
  obtain ⟨h1, h2, h3⟩ := tk3 h
  have h5 := rnK_b (P := isDb) (t := t) (show p ≤ L by omega)
  have h6 := pkw_r (b := 10) (c := fun i => t (p + i) - 48) (lo := 0) (hi := 9) (by omega) (by omega) (by omega) (rnK isDb t L p - p) (fun i hi => by
    have : 48 ≤ t (p + i) ∧ t (p + i) ≤ 57 := of_decide_eq_true (h5.2.2 (p + i) (by omega) (by omega))
    show 0 ≤ t (p + i) - 48 ∧ t (p + i) - 48 ≤ 9
    omega)
  have h7 := pw10 (show rnK isDb t L p - p ≤ 4 by omega)
  unfold tkN
  generalize pkw 10 (fun i => t (p + i) - 48) (rnK isDb t L p - p) = z at *
  generalize (10 : Int) ^ (rnK isDb t L p - p) = y at *
  omega
/-- what the code tells: nothing, a sign, or a word of the language -/
theorem tk_c (t : Nat → Int) (L p : Nat) : (tkC t L p = 0 ∧ tkG t L p ≠ 4 ∧ (tkG t L p = 2 → ∀ k, k < 19 → tkW 37 t L p ≠ kw37 k)) ∨ (tkG t L p = 4 ∧ tkC t L p = t p ∧ isSb (t p) = true) ∨ (tkG t L p = 2 ∧ ∃ k, k < 19 ∧ tkW 37 t L p = kw37 k ∧ tkC t L p = 128 + (k : Int)) := by
  by_cases c : tkG t L p = 2
  · have e : tkC t L p = kcS (tkW 32 t L p) 19 := if_pos c
    rcases kcS_v (x := tkW 32 t L p) 19 with ⟨h1, h2⟩ | ⟨k, h1, h2, h3⟩
    · refine Or.inl ⟨by rw [e, h1], by omega, fun _ k hk q => h2 k hk ?_⟩
      exact ((nm_iff (kw_nm hk) (tk_nm c)).2 q.symm)
    · exact Or.inr (Or.inr ⟨c, k, h1, ((nm_iff (kw_nm h1) (tk_nm c)).1 h2).symm, by rw [e, h3]⟩)
  · have e : tkC t L p = if tkG t L p = 4 then t p else 0 := if_neg c
    by_cases c2 : tkG t L p = 4
    · exact Or.inr (Or.inl ⟨c2, by rw [e, if_pos c2], (tk4 c2).2⟩)
    · exact Or.inl ⟨by rw [e, if_neg c2], c2, fun q => absurd q c⟩
theorem sb_r {s : Int} (h : isSb s = true) : 40 ≤ s ∧ s ≤ 61 := by
  have : s = 40 ∨ s = 41 ∨ s = 42 ∨ s = 43 ∨ s = 45 ∨ s = 59 ∨ s = 60 ∨ s = 61 := of_decide_eq_true h
  omega
theorem tk_sign {t : Nat → Int} {L p : Nat} {s : Int} (hs : isSb s = true) : tkC t L p = s ↔ tkG t L p = 4 ∧ t p = s := by
  have := sb_r hs
  rcases tk_c t L p with ⟨h1, h2, _⟩ | ⟨h1, h2, _⟩ | ⟨h1, k, h2, h3, h4⟩
  · rw [h1]; exact ⟨fun q => by omega, fun q => absurd q.1 h2⟩
  · rw [h2]; exact ⟨fun q => ⟨h1, q⟩, fun q => q.2⟩
  · rw [h4]; exact ⟨fun q => by omega, fun q => by omega⟩
theorem tk_word {t : Nat → Int} {L p k : Nat} (hk : k < 19) : tkC t L p = 128 + (k : Int) ↔ tkG t L p = 2 ∧ tkW 37 t L p = kw37 k := by
  rcases tk_c t L p with ⟨h1, h2, h3⟩ | ⟨h1, h2, h3⟩ | ⟨h1, m, h2, h3, h4⟩
  · rw [h1]; exact ⟨fun q => by omega, fun q => absurd q.2 (h3 q.1 k hk)⟩
  · have := sb_r h3
    rw [h2]; exact ⟨fun q => by omega, fun q => by omega⟩
  · rw [h4]
    refine ⟨fun q => ⟨h1, by rw [h3, show m = k by omega]⟩, fun q => ?_⟩
    have e : kw37 m = kw37 k := by rw [← h3]; exact q.2
    have e2 := kw_inj h2 hk ((nm_iff (kw_nm h2) (kw_nm hk)).2 e)
    rw [e2]
