/-! ===== the law of weights: a program of tokens (kind, argument), operands first; kinds: 1 number, 2 fact, 3 not, 4 + 5 - 6 * 7 < 8 = 9 and 10 or ===== -/
def bop (c x y : Int) : Int := if c = 4 then w32 (x + y) else if c = 5 then w32 (x - y) else if c = 6 then w32 (x * y) else if c = 7 then (if x < y then 1 else 0) else if c = 8 then (if x = y then 1 else 0) else if c = 9 then (if x ≠ 0 ∧ y ≠ 0 then 1 else 0) else (if x ≠ 0 ∨ y ≠ 0 then 1 else 0)
/-- an operator as the class has it -/
def kc (c : Int) : Int := if c = 4 then 43 else if c = 5 then 45 else if c = 6 then 42 else if c = 7 then 60 else if c = 8 then 61 else if c = 9 then 141 else 142
/-- a token as the class has it -/
def ccode (t : Int × Int) : Int := if t.1 = 1 then t.2 else if t.1 = 2 then -(143 + t.2) else if t.1 = 3 then -140 else -(kc t.1)
def tokok (t : Int × Int) : Prop := (t.1 = 1 ∧ 0 ≤ t.2 ∧ t.2 ≤ 9999) ∨ (t.1 = 2 ∧ 0 ≤ t.2 ∧ t.2 ≤ 3) ∨ (t.1 = 3 ∧ t.2 = 0) ∨ (4 ≤ t.1 ∧ t.1 ≤ 10 ∧ t.2 = 0)
def dp (P : Nat → Int × Int) : Nat → Nat
  | 0 => 0
  | i + 1 => if (P i).1 ≤ 2 then dp P i + 1 else if (P i).1 = 3 then dp P i else dp P i - 1
/-- what lies on the stack behind i tokens -/
def vr (f : Int → Int) (P : Nat → Int × Int) : Nat → Nat → Int
  | 0 => fun _ => 0
  | i + 1 => fun j => if (P i).1 = 1 then (if j = dp P i then (P i).2 else vr f P i j) else if (P i).1 = 2 then (if j = dp P i then f (P i).2 else vr f P i j) else if (P i).1 = 3 then (if j = dp P i - 1 then (if vr f P i (dp P i - 1) = 0 then 1 else 0) else vr f P i j) else (if j = dp P i - 2 then bop (P i).1 (vr f P i (dp P i - 2)) (vr f P i (dp P i - 1)) else vr f P i j)
def wfP (P : Nat → Int × Int) (n : Nat) : Prop := (∀ i, i < n → tokok (P i) ∧ ((P i).1 ≤ 2 → dp P i < 32) ∧ ((P i).1 = 3 → 1 ≤ dp P i ∧ dp P i ≤ 32) ∧ (4 ≤ (P i).1 → 2 ≤ dp P i ∧ dp P i ≤ 32)) ∧ dp P n = 1
/-- what the program weighs -/
def wv (f : Int → Int) (P : Nat → Int × Int) (n : Nat) : Int := vr f P n 0
def fct (x1 x2 x3 x4 : Int) (k : Int) : Int := if k = 0 then x1 else if k = 1 then x2 else if k = 2 then x3 else x4
section CLW
variable {K : KK} {d : Nat} {V : Mem}
theorem c_operand_f {k : Int} (hk : 0 ≤ k ∧ k ≤ 3) (x1 x2 x3 x4 : Int) : Pu K d mX4_operand [vI (143 + k), vI x1, vI x2, vI x3, vI x4] V (fct x1 x2 x3 x4 k) := by
  refine sX4_operand _ x1 x2 x3 x4 ⟨fun h => ?_, fun h => ?_, fun h => ?_, fun h => ?_, fun h => ?_⟩
  · refine ⟨_, rfl, ?_, rfl⟩; unfold fct; rw [if_pos (by omega)]
  · refine ⟨_, rfl, ?_, rfl⟩; unfold fct; rw [if_neg (by omega), if_pos (by omega)]
  · refine ⟨_, rfl, ?_, rfl⟩; unfold fct; rw [if_neg (by omega), if_neg (by omega), if_pos (by omega)]
  · refine ⟨_, rfl, ?_, rfl⟩; unfold fct; rw [if_neg (by omega), if_neg (by omega), if_neg (by omega)]
  · omega
theorem c_operand_n {k : Int} (hk : 0 ≤ k ∧ k ≤ 9999) (x1 x2 x3 x4 : Int) : Pu K d mX4_operand [vI (-k), vI x1, vI x2, vI x3, vI x4] V k := by
  refine sX4_operand _ x1 x2 x3 x4 ⟨fun h => ?_, fun h => ?_, fun h => ?_, fun h => ?_, fun h => ?_⟩
  · omega
  · omega
  · omega
  · omega
  · refine ⟨_, rfl, ?_, rfl⟩; rw [w32_id (by omega) (by omega)]; omega
theorem c_result {c : Int} (hc : 4 ≤ c ∧ c ≤ 10) (x z : Int) : Pu K d mX4_result [vI (kc c), vI x, vI z] V (bop c x z) := by
  have e : c = 4 ∨ c = 5 ∨ c = 6 ∨ c = 7 ∨ c = 8 ∨ c = 9 ∨ c = 10 := by omega
  refine sX4_result _ x z ⟨fun h => ?_, fun h => ?_, fun h => ⟨fun h2 => ?_, fun h2 => ?_⟩, fun h => ⟨fun h2 => ?_, fun h2 => ?_⟩, fun h => ⟨fun h2 => ?_, fun h2 => ⟨fun h3 => ?_, fun h3 => ?_⟩⟩, fun h => ⟨fun h2 => ?_, fun h2 => ⟨fun h3 => ?_, fun h3 => ?_⟩⟩, fun h => ?_⟩ <;> rcases e with rfl | rfl | rfl | rfl | rfl | rfl | rfl <;> first | exact absurd h (by decide) | (refine ⟨_, rfl, ?_, rfl⟩; simp [bop] <;> omega)
theorem m_worked {c : Int} (hc : 4 ≤ c ∧ c ≤ 10) (x z : Int) : Pu K d mX12_worked [vI c, vI x, vI z] V (bop c x z) := by
  have e : c = 4 ∨ c = 5 ∨ c = 6 ∨ c = 7 ∨ c = 8 ∨ c = 9 ∨ c = 10 := by omega
  refine sX12_worked _ x z ⟨fun h => ?_, fun h => ?_, fun h => ?_, fun h => ⟨fun h2 => ?_, fun h2 => ?_⟩, fun h => ⟨fun h2 => ?_, fun h2 => ?_⟩, fun h => ⟨fun h2 => ?_, fun h2 => ⟨fun h3 => ?_, fun h3 => ?_⟩⟩, fun h => ⟨fun h2 => ?_, fun h2 => ⟨fun h3 => ?_, fun h3 => ?_⟩⟩⟩ <;> rcases e with rfl | rfl | rfl | rfl | rfl | rfl | rfl <;> first | exact absurd h (by decide) | (refine ⟨_, rfl, ?_, rfl⟩; simp [bop] <;> omega)
/-- the class's law at a is the program P of n tokens -/
def lawX (V : Mem) (a : Nat) (P : Nat → Int × Int) (n : Nat) : Prop := V a 2 = n ∧ n ≤ 1000 ∧ ∀ i, i < n → V (a + 1) i = ccode (P i)
theorem c_weigh {a n : Nat} {P : Nat → Int × Int} (h0 : IsLaw a) (hl : lawX V a P n) (hw : wfP P n) (x1 x2 x3 x4 : Int) : Mi K (d + 1) mX4_weigh [vR a, vI x1, vI x2, vI x3, vI x4] V (fun z V' => z = wv (fct x1 x2 x3 x4) P n ∧ ∀ c, c ≠ a + 2 → V' c = V c) := by
  obtain ⟨hn, h1000, hP⟩ := hl
  refine sX4_weigh a x1 x2 x3 x4 h0 ?_
  have wqA : ∀ i, i ≤ n → ∀ V' : Mem, (∀ c, c ≠ a + 2 → V' c = V c) → (∀ j, j < dp P i → V' (a + 2) j = vr (fct x1 x2 x3 x4) P i j) → Wf K (d + 1) mX4_weigh 6 [some (vR a), some (vI x1), some (vI x2), some (vI x3), some (vI x4), some (vI (dp P i : Int)), some (vI (i : Int)), none] [] V' (fun r V' => ∃ z, r = some (vI z) ∧ (z = wv (fct x1 x2 x3 x4) P n ∧ ∀ c, c ≠ a + 2 → V' c = V c)) := by
    refine up_ind ?_ ?_
    · intro V' hV hS
      have h1 := hw.2
      refine sX4_weigh_6 a x1 x2 x3 x4 _ _ h0 ⟨fun _ => ?_, fun c => absurd (by rw [hV a (by omega), hn]; exact Int.le_refl _) c⟩
      refine sX4_weigh_169 a _ h0 ⟨fun c => by omega, fun _ => ?_⟩
      rw [h1, w32_id (by omega) (by omega)]
      refine ⟨⟨by decide, by decide⟩, _, rfl, ?_, hV⟩
      exact hS 0 (by omega)
    · intro i hi ih V' hV hS
      obtain ⟨tk, w1, w2, w3⟩ := hw.1 i hi
      refine sX4_weigh_6 a x1 x2 x3 x4 _ _ h0 ⟨fun c => absurd c (by rw [hV a (by omega), hn]; omega), fun _ => ⟨fun c => by omega, fun _ => ⟨⟨by omega, by omega⟩, ?_⟩⟩⟩
      rw [tn, hV (a + 1) (by omega), hP i hi]
      have ed : dp P (i + 1) = if (P i).1 ≤ 2 then dp P i + 1 else if (P i).1 = 3 then dp P i else dp P i - 1 := rfl
      have ev : ∀ j, vr (fct x1 x2 x3 x4) P (i + 1) j = if (P i).1 = 1 then (if j = dp P i then (P i).2 else vr (fct x1 x2 x3 x4) P i j) else if (P i).1 = 2 then (if j = dp P i then fct x1 x2 x3 x4 (P i).2 else vr (fct x1 x2 x3 x4) P i j) else if (P i).1 = 3 then (if j = dp P i - 1 then (if vr (fct x1 x2 x3 x4) P i (dp P i - 1) = 0 then 1 else 0) else vr (fct x1 x2 x3 x4) P i j) else (if j = dp P i - 2 then bop (P i).1 (vr (fct x1 x2 x3 x4) P i (dp P i - 2)) (vr (fct x1 x2 x3 x4) P i (dp P i - 1)) else vr (fct x1 x2 x3 x4) P i j) := fun j => rfl
      generalize hg : P i = t at *
      rcases tk with ⟨t1, t2, t3⟩ | ⟨t1, t2, t3⟩ | ⟨t1, t2⟩ | ⟨t1, t2, t3⟩
      · -- a number
        have ec : ccode t = t.2 := by unfold ccode; rw [if_pos t1]
        have hd := w1 (by omega)
        rw [ec, w32_id (x := -t.2) (by omega) (by omega)]
        refine ⟨fun _ => ⟨fun _ => ?_, fun c => absurd (by omega) c⟩, fun c => by omega⟩
        refine sX4_weigh_133 a x1 x2 x3 x4 _ _ _ h0 ⟨fun c => by omega, fun _ => ?_⟩
        refine (c_operand_n (d := d) ⟨t2, t3⟩ x1 x2 x3 x4).use ⟨⟨by omega, by omega⟩, ?_⟩
        refine sX4_weigh_163 a x1 x2 x3 x4 _ _ h0 ?_
        rw [tn, w32_s (by omega), w32_s (by omega)]
        rw [if_pos (by omega)] at ed
        rw [← ed]
        refine ih _ (fun c hc => (upm_off c hc).trans (hV c hc)) (fun j hj => ?_)
        rw [ev j, if_pos t1]
        by_cases q : j = dp P i
        · subst q; rw [upm_s, if_pos rfl]
        · rw [upm_k q, if_neg q]; exact hS j (by omega)
      · -- a fact
        have ec : ccode t = -(143 + t.2) := by unfold ccode; rw [if_neg (by omega), if_pos t1]
        have hd := w1 (by omega)
        have e2 : - -(143 + t.2) = 143 + t.2 := by omega
        rw [ec, e2, w32_id (x := 143 + t.2) (by omega) (by omega)]
        refine ⟨fun _ => ⟨fun c => by omega, fun _ => ⟨fun _ => ?_, fun c => absurd (by omega) c⟩⟩, fun c => by omega⟩
        refine sX4_weigh_133 a x1 x2 x3 x4 _ _ _ h0 ⟨fun c => by omega, fun _ => ?_⟩
        refine (c_operand_f (d := d) ⟨t2, t3⟩ x1 x2 x3 x4).use ⟨⟨by omega, by omega⟩, ?_⟩
        refine sX4_weigh_163 a x1 x2 x3 x4 _ _ h0 ?_
        rw [tn, w32_s (by omega), w32_s (by omega)]
        rw [if_pos (by omega)] at ed
        rw [← ed]
        refine ih _ (fun c hc => (upm_off c hc).trans (hV c hc)) (fun j hj => ?_)
        rw [ev j, if_neg (by omega), if_pos t1]
        by_cases q : j = dp P i
        · subst q; rw [upm_s, if_pos rfl]
        · rw [upm_k q, if_neg q]; exact hS j (by omega)
      · -- not
        have ec : ccode t = -140 := by unfold ccode; rw [if_neg (by omega), if_neg (by omega), if_pos t1]
        have hd := w2 t1
        rw [ec]
        have e2 : w32 (- -140) = 140 := by decide
        rw [e2]
        refine ⟨fun c => absurd rfl c, fun _ => ⟨fun c => by omega, fun _ => ?_⟩⟩
        have e3 : w32 ((dp P i : Int) - 1) = ((dp P i - 1 : Nat) : Int) := by rw [w32_id (by omega) (by omega)]; omega
        rw [e3, tn, hS (dp P i - 1) (by omega)]
        rw [if_neg (by omega), if_pos t1] at ed
        have fin : ∀ z : Int, z = (if vr (fct x1 x2 x3 x4) P i (dp P i - 1) = 0 then 1 else 0) → Wf K (d + 1) mX4_weigh 74 [some (vR a), some (vI x1), some (vI x2), some (vI x3), some (vI x4), some (vI (dp P i : Int)), some (vI (i : Int)), none] [vI z, vI ((dp P i - 1 : Nat) : Int), vR (a + 2)] V' (fun r V' => ∃ z, r = some (vI z) ∧ (z = wv (fct x1 x2 x3 x4) P n ∧ ∀ c, c ≠ a + 2 → V' c = V c)) := by
          intro z hz
          refine sX4_weigh_74 a x1 x2 x3 x4 _ _ (a + 2) _ _ h0 h0.2.2 ⟨⟨by omega, by omega⟩, ?_⟩
          refine sX4_weigh_163 a x1 x2 x3 x4 _ _ h0 ?_
          rw [tn, w32_s (by omega)]
          have := ih (upm V' (a + 2) (dp P i - 1) z) (fun c hc => (upm_off c hc).trans (hV c hc)) (fun j hj => by
            rw [ev j, if_neg (by omega), if_neg (by omega), if_pos t1]
            by_cases q : j = dp P i - 1
            · subst q; rw [upm_s, if_pos rfl]; exact hz
            · rw [upm_k q, if_neg q]; exact hS j (by omega))
          rw [ed] at this
          exact this
        refine ⟨⟨by omega, by omega⟩, fun c => fin 0 (by rw [if_neg c]), fun c => fin 1 (by rw [if_pos c])⟩
      · -- an operator
        have ec : ccode t = -(kc t.1) := by unfold ccode; rw [if_neg (by omega), if_neg (by omega), if_neg (by omega)]
        have hd := w3 t1
        have hkc : 0 < kc t.1 ∧ kc t.1 < 143 ∧ kc t.1 ≠ 140 := by
          unfold kc
          repeat' split
          all_goals omega
        have e2 : - -(kc t.1) = kc t.1 := by omega
        rw [ec, e2, w32_id (x := kc t.1) (by omega) (by omega)]
        have e3 : w32 ((dp P i : Int) + (-1)) = ((dp P i - 1 : Nat) : Int) := by rw [w32_id (by omega) (by omega)]; omega
        have e4 : w32 (((dp P i - 1 : Nat) : Int) - 1) = ((dp P i - 2 : Nat) : Int) := by rw [w32_id (by omega) (by omega)]; omega
        refine ⟨fun _ => ⟨fun c => by omega, fun _ => ⟨fun c => by omega, fun _ => ⟨fun c => by omega, fun _ => ?_⟩⟩⟩, fun c => by omega⟩
        rw [e3, e4, tn, tn, hS (dp P i - 2) (by omega), hS (dp P i - 1) (by omega)]
        refine ⟨⟨by omega, by omega⟩, ⟨by omega, by omega⟩, (c_result (d := d) ⟨t1, t2⟩ _ _).use ⟨⟨by omega, by omega⟩, ?_⟩⟩
        refine sX4_weigh_163 a x1 x2 x3 x4 _ _ h0 ?_
        rw [w32_s (by omega)]
        rw [if_neg (by omega), if_neg (by omega)] at ed
        rw [← ed]
        refine ih _ (fun c hc => (upm_off c hc).trans (hV c hc)) (fun j hj => ?_)
        rw [ev j, if_neg (by omega), if_neg (by omega), if_neg (by omega)]
        by_cases q : j = dp P i - 2
        · subst q; rw [upm_s, if_pos rfl, ed]
        · rw [upm_k q, if_neg q]; exact hS j (by omega)
  exact wqA 0 (Nat.zero_le n) V (fun _ _ => rfl) (fun j hj => absurd hj (Nat.not_lt_zero j))
end CLW
