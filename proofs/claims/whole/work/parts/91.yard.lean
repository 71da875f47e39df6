/-! ===== the law's yard: tokens pending, operands first; lists have the newest at their head ===== -/
def yrk (c : Int) : Nat := if c = 42 then 4 else if c = 43 ∨ c = 45 then 3 else if c = 60 ∨ c = 61 then 2 else if c = 141 ∨ c = 142 then 1 else 0
def yop (c : Int) : Int × Int := (if c = 43 then 4 else if c = 45 then 5 else if c = 42 then 6 else if c = 60 then 7 else if c = 61 then 8 else if c = 141 then 9 else 10, 0)
/-- release down to a rank -/
def yrl (r : Nat) : List Int → List (Int × Int) → List (Int × Int) × List Int
  | [], C => (C, [])
  | c :: S, C => if r ≤ yrk c then yrl r S (yop c :: C) else (C, c :: S)
/-- release nots -/
def yrn : List Int → List (Int × Int) → List (Int × Int) × List Int
  | [], C => (C, [])
  | c :: S, C => if c = 140 then yrn S ((3, 0) :: C) else (C, c :: S)
def ytp : List Int → Nat
  | [] => 0
  | c :: _ => yrk c
def yopn : List Int → Nat
  | [] => 0
  | c :: S => (if yrk c = 0 then 1 else 0) + yopn S
def ybn : List Int → Nat
  | [] => 0
  | c :: S => (if yrk c = 0 then 0 else 1) + ybn S
/-- a part stands or opens here -/
def yst (t : Nat → Int) (L i : Nat) : Bool := decide (cT t L i = 140 ∨ cT t L i = 40 ∨ gT t L i = 3 ∨ (143 ≤ cT t L i ∧ cT t L i ≤ 146))
def yptk (t : Nat → Int) (L i : Nat) : Int × Int := if gT t L i = 3 then (1, nT t L i) else (2, cT t L i - 143)
def yd (t : Nat → Int) (L i : Nat) (due : Bool) (C : List (Int × Int)) (S : List Int) : Int × Bool × List (Int × Int) × List Int :=
  if due = true then
    (if yst t L i = true then
      (if 5 ≤ yopn S then (ftT t L i 5, true, C, S)
       else if cT t L i = 140 ∨ cT t L i = 40 then (0, true, C, cT t L i :: S)
       else (0, false, yrn S (yptk t L i :: C)))
     else (ftT t L i 1, true, C, S))
  else if cT t L i = 59 then (if (yrl 1 S C).2.length = 0 then (-1, false, yrl 1 S C) else (ftT t L i 1, false, C, S))
  else if cT t L i = 41 then (if (yrl 1 S C).2.length = 0 then (ftT t L i 1, false, C, S) else (0, false, yrn (yrl 1 S C).2.tail (yrl 1 S C).1))
  else if yrk (cT t L i) = 0 then (ftT t L i 1, false, C, S)
  else if yrk (cT t L i) = 2 then (if ytp (yrl 3 S C).2 = 2 then (ftT t L i 1, false, C, S) else (0, true, (yrl 3 S C).1, cT t L i :: (yrl 3 S C).2))
  else (0, true, (yrl (yrk (cT t L i)) S C).1, cT t L i :: (yrl (yrk (cT t L i)) S C).2)
def yrun (t : Nat → Int) (L : Nat) : Nat → Nat → Bool → List (Int × Int) → List Int → Int × Nat × List (Int × Int)
  | 0, i, _, C, _ => (0, i, C)
  | f + 1, i, due, C, S => if (yd t L i due C S).1 = 0 then yrun t L f (i + 1) (yd t L i due C S).2.1 (yd t L i due C S).2.2.1 (yd t L i due C S).2.2.2 else ((yd t L i due C S).1, i, (yd t L i due C S).2.2.1)
/-- the yard's run from token i: how it ends (-1 well, or a fault), at which token, with what -/
def YR (t : Nat → Int) (L i : Nat) (due : Bool) (C : List (Int × Int)) (S : List Int) : Int × Nat × List (Int × Int) := yrun t L (1002 - i) i due C S
theorem YR_go {t : Nat → Int} {L i : Nat} {due due' : Bool} {C C' : List (Int × Int)} {S S' : List Int} (hi : i ≤ 1000) (h : yd t L i due C S = (0, due', C', S')) : YR t L i due C S = YR t L (i + 1) due' C' S' := by
  unfold YR
  obtain ⟨m, hm⟩ : ∃ m, 1002 - i = m + 1 := ⟨1001 - i, by omega⟩
  rw [hm, show 1002 - (i + 1) = m by omega]
  have e : yrun t L (m + 1) i due C S = if (yd t L i due C S).1 = 0 then yrun t L m (i + 1) (yd t L i due C S).2.1 (yd t L i due C S).2.2.1 (yd t L i due C S).2.2.2 else ((yd t L i due C S).1, i, (yd t L i due C S).2.2.1) := rfl
  rw [e, h, if_pos rfl]
theorem YR_stop {t : Nat → Int} {L i : Nat} {due due' : Bool} {C C' : List (Int × Int)} {S S' : List Int} {f : Int} (hi : i ≤ 1000) (h : yd t L i due C S = (f, due', C', S')) (hf : f ≠ 0) : YR t L i due C S = (f, i, C') := by
  unfold YR
  obtain ⟨m, hm⟩ : ∃ m, 1002 - i = m + 1 := ⟨1001 - i, by omega⟩
  rw [hm]
  have e : yrun t L (m + 1) i due C S = if (yd t L i due C S).1 = 0 then yrun t L m (i + 1) (yd t L i due C S).2.1 (yd t L i due C S).2.2.1 (yd t L i due C S).2.2.2 else ((yd t L i due C S).1, i, (yd t L i due C S).2.2.1) := rfl
  rw [e, h, if_neg hf]
/-! ranks -/
theorem yrk4 (c : Int) : yrk c ≤ 4 := by
  unfold yrk
  repeat' split
  all_goals omega
theorem yrk_c {c : Int} (h : yrk c ≠ 0) : c = 42 ∨ c = 43 ∨ c = 45 ∨ c = 60 ∨ c = 61 ∨ c = 141 ∨ c = 142 := by
  unfold yrk at h
  by_cases c1 : c = 42
  · exact Or.inl c1
  rw [if_neg c1] at h
  by_cases c2 : c = 43 ∨ c = 45
  · omega
  rw [if_neg c2] at h
  by_cases c3 : c = 60 ∨ c = 61
  · omega
  rw [if_neg c3] at h
  by_cases c4 : c = 141 ∨ c = 142
  · omega
  rw [if_neg c4] at h
  exact absurd rfl h
/-! releases -/
theorem yrl_stop {r : Nat} {S : List Int} {C : List (Int × Int)} (h : ytp S < r) : yrl r S C = (C, S) := by
  cases S with
  | nil => rfl
  | cons c S =>
    have h' : yrk c < r := h
    show (if r ≤ yrk c then yrl r S (yop c :: C) else (C, c :: S)) = _
    rw [if_neg (by omega)]
theorem yrl_top {r : Nat} (hr : 1 ≤ r) : ∀ (S : List Int) (C : List (Int × Int)), ytp (yrl r S C).2 < r
  | [], C => by show (0 : Nat) < r; omega
  | c :: S, C => by
    have e : yrl r (c :: S) C = if r ≤ yrk c then yrl r S (yop c :: C) else (C, c :: S) := rfl
    rw [e]
    by_cases q : r ≤ yrk c
    · rw [if_pos q]; exact yrl_top hr S _
    · rw [if_neg q]; show yrk c < r; omega
/-- a release to a higher rank first changes nothing -/
theorem yrl_comp {r q : Nat} (h : r ≤ q) : ∀ (S : List Int) (C : List (Int × Int)), yrl r S C = yrl r (yrl q S C).2 (yrl q S C).1
  | [], C => rfl
  | c :: S, C => by
    have e : yrl q (c :: S) C = if q ≤ yrk c then yrl q S (yop c :: C) else (C, c :: S) := rfl
    have e2 : yrl r (c :: S) C = if r ≤ yrk c then yrl r S (yop c :: C) else (C, c :: S) := rfl
    rw [e]
    by_cases x : q ≤ yrk c
    · rw [if_pos x, e2, if_pos (by omega)]; exact yrl_comp h S _
    · rw [if_neg x]
/-! a token's list as a program -/
def gP : List (Int × Int) → Nat → Int × Int
  | [] => fun _ => (0, 0)
  | x :: C => fun i => if i = C.length then x else gP C i
def PW : List (Int × Int) → Nat → Prop
  | [], h => h = 0
  | x :: C, h => tokok x ∧ ∃ h0, PW C h0 ∧ ((x.1 ≤ 2 ∧ h = h0 + 1 ∧ h0 < 32) ∨ (x.1 = 3 ∧ h = h0 ∧ 1 ≤ h0 ∧ h0 ≤ 32) ∨ (4 ≤ x.1 ∧ h + 1 = h0 ∧ 2 ≤ h0 ∧ h0 ≤ 32))
theorem PW_wf : ∀ (C : List (Int × Int)) (h : Nat), PW C h → ∀ P : Nat → Int × Int, (∀ i, i < C.length → P i = gP C i) → (∀ i, i < C.length → tokok (P i) ∧ ((P i).1 ≤ 2 → dp P i < 32) ∧ ((P i).1 = 3 → 1 ≤ dp P i ∧ dp P i ≤ 32) ∧ (4 ≤ (P i).1 → 2 ≤ dp P i ∧ dp P i ≤ 32)) ∧ dp P C.length = h
  | [], h, e, P, _ => ⟨fun i hi => absurd hi (Nat.not_lt_zero i), by
      have e' : h = 0 := e
      rw [e']; rfl⟩
  | x :: C, h, ⟨tk, h0, w, c⟩, P, hP => by
    have hl : (x :: C).length = C.length + 1 := rfl
    obtain ⟨a, b⟩ := PW_wf C h0 w P (fun i hi => by
      rw [hP i (by omega)]
      show (if i = C.length then x else gP C i) = _
      rw [if_neg (by omega)])
    have px : P C.length = x := by
      rw [hP C.length (by omega)]
      show (if C.length = C.length then x else gP C C.length) = _
      rw [if_pos rfl]
    refine ⟨fun i hi => ?_, ?_⟩
    · by_cases q : i = C.length
      · rw [q, px, b]
        refine ⟨tk, fun y => ?_, fun y => ?_, fun y => ?_⟩ <;> omega
      · exact a i (by omega)
    · rw [hl]
      show (if (P C.length).1 ≤ 2 then dp P C.length + 1 else if (P C.length).1 = 3 then dp P C.length else dp P C.length - 1) = h
      rw [px, b]
      rcases c with ⟨c1, c2, c3⟩ | ⟨c1, c2, c3⟩ | ⟨c1, c2, c3⟩
      · rw [if_pos c1]; omega
      · rw [if_neg (by omega), if_pos c1]; omega
      · rw [if_neg (by omega), if_neg (by omega)]; omega
theorem PW_wfP {C : List (Int × Int)} (h : PW C 1) : wfP (gP C) C.length := PW_wf C 1 h (gP C) (fun _ _ => rfl)
/-! what holds of the yard -/
def ysO : List Int → Prop
  | [] => True
  | c :: S => (yrk c = 0 ∨ ytp S < yrk c) ∧ ysO S
theorem ytp4 (S : List Int) : ytp S ≤ 4 := by
  cases S with
  | nil => show (0 : Nat) ≤ 4; omega
  | cons c S => exact yrk4 c
theorem ysO_len : ∀ S : List Int, ysO S → S.length ≤ 5 * yopn S + ytp S
  | [], _ => Nat.zero_le _
  | c :: S, ⟨h1, h2⟩ => by
    have ih := ysO_len S h2
    have h4 := ytp4 S
    have e1 : (c :: S).length = S.length + 1 := rfl
    have e2 : yopn (c :: S) = (if yrk c = 0 then 1 else 0) + yopn S := rfl
    have e3 : ytp (c :: S) = yrk c := rfl
    rw [e1, e2, e3]
    by_cases q : yrk c = 0
    · rw [if_pos q]; omega
    · rw [if_neg q]; omega
theorem ybn_le : ∀ S : List Int, ybn S ≤ S.length
  | [] => Nat.zero_le _
  | c :: S => by
    have ih := ybn_le S
    have e1 : (c :: S).length = S.length + 1 := rfl
    have e2 : ybn (c :: S) = (if yrk c = 0 then 0 else 1) + ybn S := rfl
    rw [e1, e2]
    by_cases q : yrk c = 0
    · rw [if_pos q]; omega
    · rw [if_neg q]; omega
theorem yop_ok {c : Int} : tokok (yop c) ∧ 4 ≤ (yop c).1 := by
  unfold yop tokok
  repeat' split
  all_goals (dsimp only; omega)
theorem yrl_inv {r : Nat} (hr : 1 ≤ r) : ∀ (S : List Int) (C : List (Int × Int)), ysO S → S.length ≤ 30 → PW C (ybn S + 1) → ysO (yrl r S C).2 ∧ PW (yrl r S C).1 (ybn (yrl r S C).2 + 1) ∧ (yrl r S C).1.length + (yrl r S C).2.length = C.length + S.length ∧ yopn (yrl r S C).2 = yopn S ∧ (yrl r S C).2.length ≤ S.length
  | [], C, h1, h2, h3 => ⟨h1, h3, rfl, rfl, Nat.le_refl _⟩
  | c :: S, C, h1, h2, h3 => by
    have e : yrl r (c :: S) C = if r ≤ yrk c then yrl r S (yop c :: C) else (C, c :: S) := rfl
    rw [e]
    have e1 : (c :: S).length = S.length + 1 := rfl
    by_cases q : r ≤ yrk c
    · rw [if_pos q]
      have e2 : ybn (c :: S) = 1 + ybn S := by
        show (if yrk c = 0 then 0 else 1) + ybn S = _
        rw [if_neg (by omega)]
      have e3 : yopn (c :: S) = yopn S := by
        show (if yrk c = 0 then 1 else 0) + yopn S = _
        rw [if_neg (by omega), Nat.zero_add]
      have hb := ybn_le S
      rw [e2] at h3
      obtain ⟨a1, a2, a3, a4, a5⟩ := yrl_inv hr S (yop c :: C) h1.2 (by omega) ⟨yop_ok.1, _, h3, Or.inr (Or.inr ⟨yop_ok.2, by omega, by omega, by omega⟩)⟩
      refine ⟨a1, a2, ?_, by rw [a4, e3], by omega⟩
      rw [a3]
      show C.length + 1 + S.length = C.length + (S.length + 1)
      omega
    · rw [if_neg q]
      exact ⟨h1, h3, rfl, rfl, Nat.le_refl _⟩
theorem yrn_inv : ∀ (S : List Int) (C : List (Int × Int)), ysO S → S.length ≤ 30 → PW C (ybn S + 1) → ysO (yrn S C).2 ∧ PW (yrn S C).1 (ybn (yrn S C).2 + 1) ∧ (yrn S C).1.length + (yrn S C).2.length = C.length + S.length ∧ yopn (yrn S C).2 ≤ yopn S ∧ (yrn S C).2.length ≤ S.length
  | [], C, h1, h2, h3 => ⟨h1, h3, rfl, Nat.le_refl _, Nat.le_refl _⟩
  | c :: S, C, h1, h2, h3 => by
    have e : yrn (c :: S) C = if c = 140 then yrn S ((3, 0) :: C) else (C, c :: S) := rfl
    rw [e]
    have e1 : (c :: S).length = S.length + 1 := rfl
    by_cases q : c = 140
    · rw [if_pos q]
      have z : yrk c = 0 := by rw [q]; decide
      have e2 : ybn (c :: S) = ybn S := by
        show (if yrk c = 0 then 0 else 1) + ybn S = _
        rw [if_pos z, Nat.zero_add]
      have e3 : yopn (c :: S) = 1 + yopn S := by
        show (if yrk c = 0 then 1 else 0) + yopn S = _
        rw [if_pos z]
      have hb := ybn_le S
      rw [e2] at h3
      obtain ⟨a1, a2, a3, a4, a5⟩ := yrn_inv S ((3, 0) :: C) h1.2 (by omega) ⟨Or.inr (Or.inr (Or.inl ⟨rfl, rfl⟩)), _, h3, Or.inr (Or.inl ⟨rfl, rfl, by omega, by omega⟩)⟩
      refine ⟨a1, a2, ?_, by omega, by omega⟩
      rw [a3]
      show C.length + 1 + S.length = C.length + (S.length + 1)
      omega
    · rw [if_neg q]
      exact ⟨h1, h3, rfl, Nat.le_refl _, Nat.le_refl _⟩
/-- between two tokens of a law that began at i0 -/
def YI (i0 i : Nat) (due : Bool) (C : List (Int × Int)) (S : List Int) : Prop := i0 + C.length + S.length ≤ i ∧ ysO S ∧ yopn S ≤ 5 ∧ PW C (ybn S + if due = true then 0 else 1)
theorem YI.len {i0 i : Nat} {due : Bool} {C : List (Int × Int)} {S : List Int} (h : YI i0 i due C S) : S.length ≤ 29 := by
  have h1 := ysO_len S h.2.1
  have h2 := ytp4 S
  have h3 := h.2.2.1
  omega
theorem yptk_ok {t : Nat → Int} {L i : Nat} (h : yst t L i = true) (h2 : ¬ (cT t L i = 140 ∨ cT t L i = 40)) : tokok (yptk t L i) ∧ (yptk t L i).1 ≤ 2 := by
  have h' : cT t L i = 140 ∨ cT t L i = 40 ∨ gT t L i = 3 ∨ (143 ≤ cT t L i ∧ cT t L i ≤ 146) := of_decide_eq_true h
  unfold yptk
  by_cases c : gT t L i = 3
  · rw [if_pos c]
    exact ⟨Or.inl ⟨rfl, tk_n c⟩, by dsimp only; omega⟩
  · rw [if_neg c]
    exact ⟨Or.inr (Or.inl ⟨rfl, by dsimp only; omega, by dsimp only; omega⟩), by dsimp only; omega⟩
theorem YI.step {t : Nat → Int} {L i0 i : Nat} {due due' : Bool} {C C' : List (Int × Int)} {S S' : List Int} (h : YI i0 i due C S) (e : yd t L i due C S = (0, due', C', S')) : YI i0 (i + 1) due' C' S' := by
  have hlen := h.len
  obtain ⟨h1, h2, h3, h4⟩ := h
  have nf : ∀ w : Int, 0 < w → ftT t L i w ≠ 0 := fun w hw => ft_nz hw
  unfold yd at e
  by_cases cd : due = true
  · rw [if_pos cd] at e h4
    by_cases c1 : yst t L i = true
    · rw [if_pos c1] at e
      by_cases c2 : 5 ≤ yopn S
      · rw [if_pos c2] at e
        exact absurd (congrArg Prod.fst e) (nf 5 (by omega))
      · rw [if_neg c2] at e
        by_cases c3 : cT t L i = 140 ∨ cT t L i = 40
        · rw [if_pos c3] at e
          injection e with _ e
          injection e with e1 e
          injection e with e2 e3
          subst e1; subst e2; subst e3
          have z : yrk (cT t L i) = 0 := by rcases c3 with x | x <;> rw [x] <;> decide
          refine ⟨by show i0 + C.length + (S.length + 1) ≤ i + 1; omega, ⟨Or.inl z, h2⟩, ?_, ?_⟩
          · show (if yrk (cT t L i) = 0 then 1 else 0) + yopn S ≤ 5
            rw [if_pos z]; omega
          · show PW C ((if yrk (cT t L i) = 0 then 0 else 1) + ybn S + 0)
            rw [if_pos z, Nat.zero_add]; exact h4
        · rw [if_neg c3] at e
          injection e with _ e
          injection e with e1 e
          subst e1
          obtain ⟨p1, p2⟩ := yptk_ok c1 c3
          have hb := ybn_le S
          have w : PW (yptk t L i :: C) (ybn S + 1) := ⟨p1, _, h4, Or.inl ⟨p2, rfl, by omega⟩⟩
          obtain ⟨a1, a2, a3, a4, a5⟩ := yrn_inv S (yptk t L i :: C) h2 (by omega) w
          rw [e] at a1 a2 a3 a4 a5
          dsimp only at a1 a2 a3 a4 a5
          refine ⟨?_, a1, by omega, a2⟩
          have a3' : C'.length + S'.length = C.length + 1 + S.length := a3
          omega
    · rw [if_neg c1] at e
      exact absurd (congrArg Prod.fst e) (nf 1 (by omega))
  · rw [if_neg cd] at e h4
    have rl : ∀ r, 1 ≤ r → ysO (yrl r S C).2 ∧ PW (yrl r S C).1 (ybn (yrl r S C).2 + 1) ∧ (yrl r S C).1.length + (yrl r S C).2.length = C.length + S.length ∧ yopn (yrl r S C).2 = yopn S ∧ (yrl r S C).2.length ≤ S.length := fun r hr => yrl_inv hr S C h2 (by omega) h4
    by_cases c1 : cT t L i = 59
    · rw [if_pos c1] at e
      by_cases c2 : (yrl 1 S C).2.length = 0
      · rw [if_pos c2] at e
        exact absurd (congrArg Prod.fst e) (show ¬ ((-1 : Int) = 0) by decide)
      · rw [if_neg c2] at e
        exact absurd (congrArg Prod.fst e) (nf 1 (by omega))
    · rw [if_neg c1] at e
      by_cases c2 : cT t L i = 41
      · rw [if_pos c2] at e
        by_cases c3 : (yrl 1 S C).2.length = 0
        · rw [if_pos c3] at e
          exact absurd (congrArg Prod.fst e) (nf 1 (by omega))
        · rw [if_neg c3] at e
          injection e with _ e
          injection e with e1 e
          subst e1
          obtain ⟨a1, a2, a3, a4, a5⟩ := rl 1 (by omega)
          have tp := yrl_top (r := 1) (by omega) S C
          generalize yrl 1 S C = X at *
          obtain ⟨C1, S1⟩ := X
          cases S1 with
          | nil => exact absurd rfl c3
          | cons c S1 =>
            have z : yrk c = 0 := by have tp' : yrk c < 1 := tp; omega
            have y1 : ybn (c :: S1) = ybn S1 := by
              show (if yrk c = 0 then 0 else 1) + ybn S1 = _
              rw [if_pos z, Nat.zero_add]
            have y2 : yopn (c :: S1) = 1 + yopn S1 := by
              show (if yrk c = 0 then 1 else 0) + yopn S1 = _
              rw [if_pos z]
            have y3 : (c :: S1).length = S1.length + 1 := rfl
            dsimp only at a1 a2 a3 a4 a5 e
            rw [y1] at a2
            obtain ⟨b1, b2, b3, b4, b5⟩ := yrn_inv S1 C1 a1.2 (by omega) a2
            have e' : yrn S1 C1 = (C', S') := e
            rw [e'] at b1 b2 b3 b4 b5
            dsimp only at b1 b2 b3 b4 b5
            exact ⟨by omega, b1, by omega, b2⟩
      · rw [if_neg c2] at e
        by_cases c3 : yrk (cT t L i) = 0
        · rw [if_pos c3] at e
          exact absurd (congrArg Prod.fst e) (nf 1 (by omega))
        · rw [if_neg c3] at e
          have fin : ∀ r, 1 ≤ r → ytp (yrl r S C).2 < yrk (cT t L i) → (true, (yrl r S C).1, cT t L i :: (yrl r S C).2) = (due', C', S') → YI i0 (i + 1) due' C' S' := fun r hr hq e => by
            injection e with e1 e
            injection e with e2 e3
            subst e1; subst e2; subst e3
            obtain ⟨a1, a2, a3, a4, a5⟩ := rl r hr
            refine ⟨?_, ⟨Or.inr hq, a1⟩, ?_, ?_⟩
            · show i0 + (yrl r S C).1.length + ((yrl r S C).2.length + 1) ≤ i + 1
              omega
            · show (if yrk (cT t L i) = 0 then 1 else 0) + yopn (yrl r S C).2 ≤ 5
              rw [if_neg c3]; omega
            · show PW (yrl r S C).1 ((if yrk (cT t L i) = 0 then 0 else 1) + ybn (yrl r S C).2 + 0)
              rw [if_neg c3, Nat.add_zero, Nat.add_comm]; exact a2
          by_cases c4 : yrk (cT t L i) = 2
          · rw [if_pos c4] at e
            by_cases c5 : ytp (yrl 3 S C).2 = 2
            · rw [if_pos c5] at e
              exact absurd (congrArg Prod.fst e) (nf 1 (by omega))
            · rw [if_neg c5] at e
              injection e with _ e
              have tp := yrl_top (r := 3) (by omega) S C
              exact fin 3 (by omega) (by omega) e
          · rw [if_neg c4] at e
            injection e with _ e
            have tp := yrl_top (r := yrk (cT t L i)) (by omega) S C
            exact fin _ (by omega) tp e
theorem YI.fin {t : Nat → Int} {L i0 i : Nat} {due due' : Bool} {C C' : List (Int × Int)} {S S' : List Int} (h : YI i0 i due C S) (e : yd t L i due C S = (-1, due', C', S')) : due = false ∧ cT t L i = 59 ∧ (yrl 1 S C).2.length = 0 ∧ C' = (yrl 1 S C).1 ∧ PW C' 1 ∧ i0 + C'.length ≤ i := by
  have hlen := h.len
  obtain ⟨h1, h2, h3, h4⟩ := h
  have nf : ∀ w : Int, 0 < w → ftT t L i w ≠ -1 := fun w hw => by have := ft_pos (t := t) (L := L) (i := i) hw; omega
  unfold yd at e
  by_cases cd : due = true
  · rw [if_pos cd] at e
    by_cases c1 : yst t L i = true
    · rw [if_pos c1] at e
      by_cases c2 : 5 ≤ yopn S
      · rw [if_pos c2] at e
        exact absurd (congrArg Prod.fst e) (nf 5 (by omega))
      · rw [if_neg c2] at e
        by_cases c3 : cT t L i = 140 ∨ cT t L i = 40
        · rw [if_pos c3] at e
          exact absurd (congrArg Prod.fst e) (show ¬ ((0 : Int) = -1) by decide)
        · rw [if_neg c3] at e
          exact absurd (congrArg Prod.fst e) (show ¬ ((0 : Int) = -1) by decide)
    · rw [if_neg c1] at e
      exact absurd (congrArg Prod.fst e) (nf 1 (by omega))
  · rw [if_neg cd] at e h4
    have cd' : due = false := by cases due with | true => exact absurd rfl cd | false => rfl
    by_cases c1 : cT t L i = 59
    · rw [if_pos c1] at e
      by_cases c2 : (yrl 1 S C).2.length = 0
      · rw [if_pos c2] at e
        injection e with _ e
        injection e with e1 e
        obtain ⟨a1, a2, a3, a4, a5⟩ := yrl_inv (r := 1) (by omega) S C h2 (by omega) h4
        generalize yrl 1 S C = X at *
        obtain ⟨C1, S1⟩ := X
        injection e with e2 e3
        dsimp only at a1 a2 a3 a4 a5 c2
        have n0 : S1 = [] := List.eq_nil_of_length_eq_zero c2
        rw [n0] at a2 a3
        have a3' : C1.length + 0 = C.length + S.length := a3
        subst e2
        exact ⟨cd', c1, c2, rfl, a2, by omega⟩
      · rw [if_neg c2] at e
        exact absurd (congrArg Prod.fst e) (nf 1 (by omega))
    · rw [if_neg c1] at e
      by_cases c2 : cT t L i = 41
      · rw [if_pos c2] at e
        by_cases c3 : (yrl 1 S C).2.length = 0
        · rw [if_pos c3] at e
          exact absurd (congrArg Prod.fst e) (nf 1 (by omega))
        · rw [if_neg c3] at e
          exact absurd (congrArg Prod.fst e) (show ¬ ((0 : Int) = -1) by decide)
      · rw [if_neg c2] at e
        by_cases c3 : yrk (cT t L i) = 0
        · rw [if_pos c3] at e
          exact absurd (congrArg Prod.fst e) (nf 1 (by omega))
        · rw [if_neg c3] at e
          by_cases c4 : yrk (cT t L i) = 2
          · rw [if_pos c4] at e
            by_cases c5 : ytp (yrl 3 S C).2 = 2
            · rw [if_pos c5] at e
              exact absurd (congrArg Prod.fst e) (nf 1 (by omega))
            · rw [if_neg c5] at e
              exact absurd (congrArg Prod.fst e) (show ¬ ((0 : Int) = -1) by decide)
          · rw [if_neg c4] at e
            exact absurd (congrArg Prod.fst e) (show ¬ ((0 : Int) = -1) by decide)
/-- the tokens come to an end -/
theorem ex_N {t : Nat → Int} {L : Nat} : ∃ N, N ≤ L ∧ psT t L N = L := by
  have h : ∀ i, (∃ N, N ≤ i ∧ psT t L N = L) ∨ i ≤ psT t L i := by
    intro i
    induction i with
    | zero => exact Or.inr (Nat.zero_le _)
    | succ i ih =>
      rcases ih with ⟨N, n1, n2⟩ | h
      · exact Or.inl ⟨N, by omega, n2⟩
      · by_cases c : psT t L i = L
        · exact Or.inl ⟨i, by omega, c⟩
        · have hl := (psT_le (t := t) (L := L) i).2
          have b := (tkE_b (t := t) (L := L) (p := psT t L i) (by omega)).1
          have e : bpT t L (i + 1) = tkE t L (psT t L i) := rfl
          have m : bpT t L (i + 1) ≤ psT t L (i + 1) := (rnK_b (psT_le (t := t) (L := L) (i + 1)).1).1
          exact Or.inr (by omega)
  rcases h L with h | h
  · exact h
  · have := (psT_le (t := t) (L := L) L).2
    exact ⟨L, Nat.le_refl _, by omega⟩
