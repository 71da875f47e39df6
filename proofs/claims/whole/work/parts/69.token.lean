/-! ===== tokens: what is told, sign by sign; the class's words and numbers ===== -/
def isLb (c : Int) : Bool := decide (97 ≤ c ∧ c ≤ 122)
def isDb (c : Int) : Bool := decide (48 ≤ c ∧ c ≤ 57)
def isBb (c : Int) : Bool := decide (c = 32 ∨ c = 10)
/-- behind the run of signs with P from k on -/
def rnE (P : Int → Bool) (t : Nat → Int) (L : Nat) : Nat → Nat → Nat
  | k, 0 => k
  | k, f + 1 => if k < L ∧ P (t k) = true then rnE P t L (k + 1) f else k
def rnK (P : Int → Bool) (t : Nat → Int) (L k : Nat) : Nat := rnE P t L k (L - k)
theorem rnK_go {P : Int → Bool} {t : Nat → Int} {L k : Nat} (h : k < L) (hp : P (t k) = true) : rnK P t L k = rnK P t L (k + 1) := by
  unfold rnK
  rw [show L - k = (L - (k + 1)) + 1 by omega]
  exact if_pos ⟨h, hp⟩
theorem rnK_st {P : Int → Bool} {t : Nat → Int} {L k : Nat} (h : ¬ (k < L ∧ P (t k) = true)) : rnK P t L k = k := by
  unfold rnK
  cases e : L - k with
  | zero => rfl
  | succ f => exact if_neg h
theorem rnE_b {P : Int → Bool} {t : Nat → Int} {L : Nat} : ∀ f k, k + f = L → k ≤ rnE P t L k f ∧ rnE P t L k f ≤ L ∧ ∀ j, k ≤ j → j < rnE P t L k f → P (t j) = true
  | 0, k, h => ⟨Nat.le_refl _, by show k ≤ L; omega, fun j a b => by have b' : j < k := b; omega⟩
  | f + 1, k, h => by
    unfold rnE
    by_cases c : k < L ∧ P (t k) = true
    · rw [if_pos c]
      obtain ⟨h1, h2, h3⟩ := rnE_b (P := P) (t := t) (L := L) f (k + 1) (by omega)
      refine ⟨by omega, h2, fun j a b => ?_⟩
      by_cases e : j = k
      · rw [e]; exact c.2
      · exact h3 j (by omega) b
    · rw [if_neg c]
      exact ⟨Nat.le_refl _, by omega, fun j a b => by omega⟩
theorem rnK_b {P : Int → Bool} {t : Nat → Int} {L k : Nat} (h : k ≤ L) : k ≤ rnK P t L k ∧ rnK P t L k ≤ L ∧ ∀ j, k ≤ j → j < rnK P t L k → P (t j) = true := rnE_b (L - k) k (by omega)
/-- the class's word, letter by letter -/
def wch (t : Nat → Int) (p : Nat) : Nat → Int
  | 0 => 0
  | l + 1 => w64 (w64 (wch t p l * 32) + w32 (w32 (t (p + l) - 97) + 1))
def nch (t : Nat → Int) (p : Nat) : Nat → Int
  | 0 => 0
  | l + 1 => w32 (w32 (nch t p l * 10) + w32 (t (p + l) - 48))
theorem pkw_r {b : Int} {c : Nat → Int} {lo hi : Int} (hb : 1 ≤ b) (h0 : 0 ≤ lo) (hc : hi < b) : ∀ l, (∀ i, i < l → lo ≤ c i ∧ c i ≤ hi) → 0 ≤ pkw b c l ∧ pkw b c l < b ^ l
  | 0, _ => ⟨Int.le_refl _, by rw [Int.pow_zero]; exact (by decide : (0 : Int) < 1)⟩
  | l + 1, h => by
    obtain ⟨h1, h2⟩ := pkw_r hb h0 hc l (fun i hi => h i (by omega))
    have h3 := h l (by omega)
    have e : pkw b c (l + 1) = pkw b c l * b + c l := rfl
    rw [e, Int.pow_succ]
    have h4 : 0 ≤ pkw b c l * b := Int.mul_nonneg h1 (by omega)
    have h5 : (pkw b c l + 1) * b ≤ b ^ l * b := Int.mul_le_mul_of_nonneg_right (by omega) (by omega)
    rw [Int.add_mul, Int.one_mul] at h5
    generalize pkw b c l * b = z at *
    generalize b ^ l * b = y at *
    omega
theorem pw32 {l : Nat} (h : l ≤ 8) : (32 : Int) ^ l ≤ 1099511627776 := by
  have e : l = 0 ∨ l = 1 ∨ l = 2 ∨ l = 3 ∨ l = 4 ∨ l = 5 ∨ l = 6 ∨ l = 7 ∨ l = 8 := by omega
  rcases e with rfl | rfl | rfl | rfl | rfl | rfl | rfl | rfl | rfl <;> decide
theorem pw10 {l : Nat} (h : l ≤ 4) : (10 : Int) ^ l ≤ 10000 := by
  have e : l = 0 ∨ l = 1 ∨ l = 2 ∨ l = 3 ∨ l = 4 := by omega
  rcases e with rfl | rfl | rfl | rfl | rfl <;> decide
theorem wch_p {t : Nat → Int} {p : Nat} : ∀ l, l ≤ 8 → (∀ i, i < l → 97 ≤ t (p + i) ∧ t (p + i) ≤ 122) → wch t p l = pkw 32 (fun i => t (p + i) - 96) l
  | 0, _, _ => rfl
  | l + 1, hl, h => by
    have h1 := pkw_r (b := 32) (c := fun i => t (p + i) - 96) (lo := 1) (hi := 26) (by omega) (by omega) (by omega) l (fun i hi => by
      have := h i (by omega)
      show 1 ≤ t (p + i) - 96 ∧ t (p + i) - 96 ≤ 26
      omega)
    have h2 := pw32 (show l ≤ 8 by omega)
    have h3 := h l (by omega)
    show w64 (w64 (wch t p l * 32) + w32 (w32 (t (p + l) - 97) + 1)) = pkw 32 (fun i => t (p + i) - 96) l * 32 + (t (p + l) - 96)
    rw [wch_p l (by omega) (fun i hi => h i (by omega))]
    generalize pkw 32 (fun i => t (p + i) - 96) l = z at *
    generalize (32 : Int) ^ l = y at *
    rw [w64_id (x := z * 32) (by omega) (by omega), w32_id (x := t (p + l) - 97) (by omega) (by omega), w32_id (by omega) (by omega), w64_id (by omega) (by omega)]
    omega
theorem nch_p {t : Nat → Int} {p : Nat} : ∀ l, l ≤ 4 → (∀ i, i < l → 48 ≤ t (p + i) ∧ t (p + i) ≤ 57) → nch t p l = pkw 10 (fun i => t (p + i) - 48) l
  | 0, _, _ => rfl
  | l + 1, hl, h => by
    have h1 := pkw_r (b := 10) (c := fun i => t (p + i) - 48) (lo := 0) (hi := 9) (by omega) (by omega) (by omega) l (fun i hi => by
      have := h i (by omega)
      show 0 ≤ t (p + i) - 48 ∧ t (p + i) - 48 ≤ 9
      omega)
    have h2 := pw10 (show l ≤ 4 by omega)
    have h3 := h l (by omega)
    show w32 (w32 (nch t p l * 10) + w32 (t (p + l) - 48)) = pkw 10 (fun i => t (p + i) - 48) l * 10 + (t (p + l) - 48)
    rw [nch_p l (by omega) (fun i hi => h i (by omega))]
    generalize pkw 10 (fun i => t (p + i) - 48) l = z at *
    generalize (10 : Int) ^ l = y at *
    rw [w32_id (x := z * 10) (by omega) (by omega), w32_id (x := t (p + l) - 48) (by omega) (by omega), w32_id (by omega) (by omega)]
/-- a word's code, by the class -/
def kcS (x : Int) : Nat → Int
  | 0 => 0
  | i + 1 => if kw32 i = x then 128 + i else kcS x i
section TKC
variable {K : KK} {d : Nat} {V : Mem}
theorem c_isLetter (x : Int) : Pu K d mX9_isLetter [vI x] V (if isLb x = true then 1 else 0) := by
  refine sX9_isLetter x ⟨fun c => ⟨_, rfl, ?_, rfl⟩, fun c => ⟨fun c2 => ⟨_, rfl, ?_, rfl⟩, fun c2 => ⟨_, rfl, ?_, rfl⟩⟩⟩
  · rw [if_neg (fun q => by have := of_decide_eq_true q; omega)]
  · rw [if_neg (fun q => by have := of_decide_eq_true q; omega)]
  · rw [if_pos (show isLb x = true from decide_eq_true ⟨by omega, by omega⟩)]
theorem c_isDigit (x : Int) : Pu K d mX9_isDigit [vI x] V (if isDb x = true then 1 else 0) := by
  refine sX9_isDigit x ⟨fun c => ⟨_, rfl, ?_, rfl⟩, fun c => ⟨fun c2 => ⟨_, rfl, ?_, rfl⟩, fun c2 => ⟨_, rfl, ?_, rfl⟩⟩⟩
  · rw [if_neg (fun q => by have := of_decide_eq_true q; omega)]
  · rw [if_neg (fun q => by have := of_decide_eq_true q; omega)]
  · rw [if_pos (show isDb x = true from decide_eq_true ⟨by omega, by omega⟩)]
/-- the tape, with its next place -/
def Tap (V : Mem) (t : Nat → Int) (L k : Nat) : Prop := V 1 2 = L ∧ V 1 3 = k ∧ k ≤ L ∧ L ≤ 1000 ∧ ∀ i, i < L → V 2 i = t i
theorem tap_ix {V : Mem} {t : Nat → Int} {L k : Nat} (h : Tap V t L k) (hk : k < L) : V 2 (Int.toNat (V 1 3)) = t k := by rw [h.2.1, tn]; exact h.2.2.2.2 k hk
theorem c_takeWord {t : Nat → Int} {L p : Nat} (hT : Tap V t L p) (h5 : V 1 5 = p) (h8 : V 1 8 = 0) (h7 : V 1 7 = 0) (hK : ∀ i, i < 19 → V 3 i = kw32 i) : Mv K (d + 1) mX9_takeWord [vR 1] V (fun V' => (∀ c, c ≠ 1 → V' c = V c) ∧ (∀ j, j = 2 ∨ j = 5 ∨ j = 6 → V' 1 j = V 1 j) ∧ V' 1 3 = rnK isLb t L p ∧ ((rnK isLb t L p ≤ p + 8 ∧ V' 1 4 = 2 ∧ V' 1 8 = pkw 32 (fun i => t (p + i) - 96) (rnK isLb t L p - p) ∧ V' 1 7 = kcS (pkw 32 (fun i => t (p + i) - 96) (rnK isLb t L p - p)) 19) ∨ (p + 8 < rnK isLb t L p ∧ V' 1 4 = 1 ∧ V' 1 7 = 0))) := by
  have hL := hT.2.2.2.1
  have hp := hT.2.2.1
  obtain ⟨r1, r2, r3⟩ := rnK_b (P := isLb) (t := t) hp
  -- behind the letters
  have fin : ∀ V' : Mem, (∀ c, c ≠ 1 → V' c = V c) → (∀ j, j ≠ 3 → j ≠ 8 → V' 1 j = V 1 j) → V' 1 3 = (rnK isLb t L p : Nat) → V' 1 8 = wch t p (rnK isLb t L p - p) → Wf K (d + 1) mX9_takeWord 59 [some (vR 1), none] [] V' (fun r V' => r = none ∧ (∀ c, c ≠ 1 → V' c = V c) ∧ (∀ j, j = 2 ∨ j = 5 ∨ j = 6 → V' 1 j = V 1 j) ∧ V' 1 3 = rnK isLb t L p ∧ ((rnK isLb t L p ≤ p + 8 ∧ V' 1 4 = 2 ∧ V' 1 8 = pkw 32 (fun i => t (p + i) - 96) (rnK isLb t L p - p) ∧ V' 1 7 = kcS (pkw 32 (fun i => t (p + i) - 96) (rnK isLb t L p - p)) 19) ∨ (p + 8 < rnK isLb t L p ∧ V' 1 4 = 1 ∧ V' 1 7 = 0))) := by
    intro V' g1 g2 g3 g8
    have hlet : ∀ i, i < rnK isLb t L p - p → 97 ≤ t (p + i) ∧ t (p + i) ≤ 122 := fun i hi => of_decide_eq_true (r3 (p + i) (by omega) (by omega))
    refine sX9_takeWord_59 ?_
    rw [g3, g2 5 (by omega) (by omega), h5, w32_id (x := ((rnK isLb t L p : Nat) : Int) - (p : Int)) (by omega) (by omega)]
    generalize rnK isLb t L p = e at *
    refine ⟨fun c => sX9_takeWord_79 _ (sX9_takeWord_84 _ ?_), fun c => sX9_takeWord_79 _ ?_⟩
    · rw [upm_s]
      refine ⟨fun c2 => absurd c2 (by decide), fun _ => ⟨fun _ => ⟨rfl, fun c q => by rw [upm_off c q]; exact g1 c q, fun j q => by rw [upm_k (by omega)]; exact g2 j (by omega) (by omega), by rw [upm_k (by decide)]; exact g3, Or.inr ⟨by omega, rfl, by rw [upm_k (by decide), g2 7 (by omega) (by omega)]; exact h7⟩⟩, fun c2 => absurd c2 (by decide)⟩⟩
    · rw [wch_p _ (by omega) hlet] at g8
      generalize pkw 32 (fun i => t (p + i) - 96) (e - p) = W at *
      have wqA : ∀ i : Nat, i ≤ 19 → ∀ V2 : Mem, (∀ c, c ≠ 1 → V2 c = V c) → (∀ j, j ≠ 3 → j ≠ 4 → j ≠ 7 → j ≠ 8 → V2 1 j = V 1 j) → V2 1 3 = (e : Int) → V2 1 4 = 2 → V2 1 8 = W → V2 1 7 = kcS W i → Wf K (d + 1) mX9_takeWord 84 [some (vR 1), some (vI (i : Int))] [] V2 (fun r V' => r = none ∧ (∀ c, c ≠ 1 → V' c = V c) ∧ (∀ j, j = 2 ∨ j = 5 ∨ j = 6 → V' 1 j = V 1 j) ∧ V' 1 3 = (e : Int) ∧ ((e ≤ p + 8 ∧ V' 1 4 = 2 ∧ V' 1 8 = W ∧ V' 1 7 = kcS W 19) ∨ (p + 8 < e ∧ V' 1 4 = 1 ∧ V' 1 7 = 0))) := by
        refine up_ind ?_ ?_
        · intro V2 k1 k2 k3 k4 k5 k6
          exact sX9_takeWord_84 _ ⟨fun _ => ⟨rfl, k1, fun j q => k2 j (by omega) (by omega) (by omega) (by omega), k3, Or.inl ⟨by omega, k4, k5, k6⟩⟩, fun c => absurd (by decide) c⟩
        · intro i hi ih V2 k1 k2 k3 k4 k5 k6
          refine sX9_takeWord_84 _ ⟨fun c => by omega, fun _ => ⟨fun c => absurd k4 c, fun _ => ⟨⟨by omega, by omega⟩, ?_⟩⟩⟩
          rw [tn, k1 3 (by decide), hK i hi, k5]
          have e7 : kcS W (i + 1) = if kw32 i = W then 128 + (i : Int) else kcS W i := rfl
          have ex : w32 (128 + (i : Int)) = 128 + (i : Int) := w32_id (by omega) (by omega)
          rw [ex]
          clear ex
          refine ⟨fun c => sX9_takeWord_124 _ ?_, fun c => sX9_takeWord_124 _ ?_⟩
          · rw [w32_s (i := i) (by omega)]
            refine ih V2 k1 k2 k3 k4 k5 ?_
            rw [e7, if_neg (fun q => c (by unfold b_lcmp; rw [q, if_neg (Int.lt_irrefl _), if_pos rfl]))]
            exact k6
          · rw [w32_s (i := i) (by omega)]
            have eq : kw32 i = W := by
              unfold b_lcmp at c
              split at c
              · exact absurd c (by decide)
              · split at c
                · assumption
                · exact absurd c (by decide)
            refine ih _ (fun c q => by rw [upm_off c q]; exact k1 c q) (fun j q1 q2 q3 q4 => by rw [upm_k q3]; exact k2 j q1 q2 q3 q4) (by rw [upm_k (by decide)]; exact k3) (by rw [upm_k (by decide)]; exact k4) (by rw [upm_k (by decide)]; exact k5) ?_
            rw [e7, if_pos eq, upm_s]
      exact wqA 0 (by omega) _ (fun c q => by rw [upm_off c q]; exact g1 c q) (fun j q1 q2 q3 q4 => by rw [upm_k q2]; exact g2 j q1 q4) (by rw [upm_k (by decide)]; exact g3) (upm_s _ _ _ _) (by rw [upm_k (by decide)]; exact g8) (by rw [upm_k (by decide), g2 7 (by omega) (by omega)]; exact h7)
  -- the letters
  have wqB : ∀ k, k ≤ L → p ≤ k → rnK isLb t L k = rnK isLb t L p → ∀ V' : Mem, (∀ c, c ≠ 1 → V' c = V c) → (∀ j, j ≠ 3 → j ≠ 8 → V' 1 j = V 1 j) → V' 1 3 = (k : Int) → V' 1 8 = wch t p (k - p) → Wf K (d + 1) mX9_takeWord 0 [some (vR 1), none] [] V' (fun r V' => r = none ∧ (∀ c, c ≠ 1 → V' c = V c) ∧ (∀ j, j = 2 ∨ j = 5 ∨ j = 6 → V' 1 j = V 1 j) ∧ V' 1 3 = rnK isLb t L p ∧ ((rnK isLb t L p ≤ p + 8 ∧ V' 1 4 = 2 ∧ V' 1 8 = pkw 32 (fun i => t (p + i) - 96) (rnK isLb t L p - p) ∧ V' 1 7 = kcS (pkw 32 (fun i => t (p + i) - 96) (rnK isLb t L p - p)) 19) ∨ (p + 8 < rnK isLb t L p ∧ V' 1 4 = 1 ∧ V' 1 7 = 0))) := by
    refine up_ind ?_ ?_
    · intro hl he V' g1 g2 g3 g8
      have ee : rnK isLb t L L = L := rnK_st (by omega)
      rw [ee] at he
      refine sX9_takeWord_0 ⟨fun _ => fin V' g1 g2 (by rw [← he]; exact g3) (by rw [← he]; exact g8), fun c => absurd ?_ c⟩
      rw [g3, g2 2 (by omega) (by omega), hT.1]; exact Int.le_refl _
    · intro k hk ih hl he V' g1 g2 g3 g8
      have ht : Tap V' t L k := ⟨by rw [g2 2 (by omega) (by omega)]; exact hT.1, g3, by omega, hL, fun i hi => by rw [g1 2 (by decide)]; exact hT.2.2.2.2 i hi⟩
      refine sX9_takeWord_0 ⟨fun c => absurd c (by rw [g3, g2 2 (by omega) (by omega), hT.1]; omega), fun _ => ?_⟩
      rw [tap_ix ht hk]
      refine ⟨by rw [g3]; exact ⟨by omega, by omega⟩, (c_isLetter (d := d) (t k)).use ?_⟩
      by_cases c : isLb (t k) = true
      · rw [if_pos c]
        refine ⟨fun q => absurd q (by decide), fun _ => ⟨by rw [g3]; exact ⟨by omega, by omega⟩, ?_⟩⟩
        rw [tap_ix ht hk, upm_k (show (3 : Nat) ≠ 8 by decide), g3, w32_s (i := k) (by omega), g8]
        refine ih (by omega) (by rw [← he]; exact (rnK_go hk c).symm) _ (fun x q => by rw [upm_off x q, upm_off x q]; exact g1 x q) (fun j q1 q2 => by rw [upm_k q1, upm_k q2]; exact g2 j q1 q2) (upm_s _ _ _ _) ?_
        rw [upm_k (by decide), upm_s, show k + 1 - p = (k - p) + 1 by omega]
        show _ = w64 (w64 (wch t p (k - p) * 32) + w32 (w32 (t (p + (k - p)) - 97) + 1))
        rw [show p + (k - p) = k by omega]
      · rw [if_neg c]
        refine ⟨fun _ => ?_, fun q => absurd rfl q⟩
        rw [rnK_st (fun q => c q.2)] at he
        exact fin V' g1 g2 (by rw [← he]; exact g3) (by rw [← he]; exact g8)
  have start := wqB p hp (Nat.le_refl _) rfl V (fun _ _ => rfl) (fun _ _ _ => rfl) hT.2.1 (by rw [Nat.sub_self]; exact h8)
  refine sX9_takeWord ?_
  -- the entry is the loop's head
  have := hT.2.1
  by_cases c : p < L
  · refine ⟨fun q => absurd q (by rw [hT.1, hT.2.1]; omega), fun _ => ?_⟩
    rw [tap_ix hT c]
    refine ⟨by rw [hT.2.1]; exact ⟨by omega, by omega⟩, (c_isLetter (d := d) (t p)).use ?_⟩
    by_cases c2 : isLb (t p) = true
    · rw [if_pos c2]
      refine ⟨fun q => absurd q (by decide), fun _ => ⟨by rw [hT.2.1]; exact ⟨by omega, by omega⟩, ?_⟩⟩
      rw [tap_ix hT c, upm_k (show (3 : Nat) ≠ 8 by decide), hT.2.1, w32_s (i := p) (by omega), h8]
      refine wqB (p + 1) (by omega) (by omega) (rnK_go c c2).symm _ (fun x q => by rw [upm_off x q, upm_off x q]) (fun j q1 q2 => by rw [upm_k q1, upm_k q2]) (upm_s _ _ _ _) ?_
      rw [upm_k (by decide), upm_s, show p + 1 - p = 0 + 1 by omega]
      show _ = w64 (w64 (0 * 32) + w32 (w32 (t (p + 0) - 97) + 1))
      rw [Nat.add_zero]
    · rw [if_neg c2]
      refine ⟨fun _ => ?_, fun q => absurd rfl q⟩
      have es : rnK isLb t L p = p := rnK_st (fun q => c2 q.2)
      exact fin V (fun _ _ => rfl) (fun _ _ _ => rfl) (by rw [es]; exact hT.2.1) (by rw [es, Nat.sub_self]; exact h8)
  · refine ⟨fun _ => ?_, fun q => absurd (by rw [hT.1, hT.2.1]; omega) q⟩
    have es : rnK isLb t L p = p := rnK_st (fun q => c q.1)
    exact fin V (fun _ _ => rfl) (fun _ _ _ => rfl) (by rw [es]; exact hT.2.1) (by rw [es, Nat.sub_self]; exact h8)
end TKC
