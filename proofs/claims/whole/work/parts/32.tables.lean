/-! ===== questions on all windows of a row: how, best, near ===== -/
def hwI (T : Nat → Nat → Int) (L : Int) (i : Nat) : Nat → Nat → Int → Int
  | _, 0, acc => acc
  | j, f + 1, acc => hwI T L i (j + 1) f (if T i j = L then acc + 1 else acc)
def hwO (T : Nat → Nat → Int) (L : Int) (m : Nat) : Nat → Nat → Int → Int
  | _, 0, acc => acc
  | i, f + 1, acc => hwO T L m (i + 1) f (hwI T L i i (m + 1 - i) acc)
theorem hwI_r {T : Nat → Nat → Int} {L : Int} {i : Nat} : ∀ (f j : Nat) (acc : Int), acc ≤ hwI T L i j f acc ∧ hwI T L i j f acc ≤ acc + f
  | 0, _, acc => ⟨Int.le_refl _, by unfold hwI; omega⟩
  | f + 1, j, acc => by
    unfold hwI
    by_cases c : T i j = L
    · rw [if_pos c]
      have ih := hwI_r (T := T) (L := L) (i := i) f (j + 1) (acc + 1)
      omega
    · rw [if_neg c]
      have ih := hwI_r (T := T) (L := L) (i := i) f (j + 1) acc
      omega
theorem hwI_congr {T T2 : Nat → Nat → Int} {L : Int} {i m : Nat} (h : ∀ i j, i ≤ j → j ≤ m → T i j = T2 i j) : ∀ (f j : Nat) (acc : Int), i ≤ j → j + f ≤ m + 1 → hwI T L i j f acc = hwI T2 L i j f acc
  | 0, _, _, _, _ => rfl
  | f + 1, j, acc, h1, h2 => by
    unfold hwI
    rw [h i j h1 (by omega)]
    exact hwI_congr h f (j + 1) _ (by omega) (by omega)
theorem hwO_congr {T T2 : Nat → Nat → Int} {L : Int} {m : Nat} (h : ∀ i j, i ≤ j → j ≤ m → T i j = T2 i j) : ∀ (f i : Nat) (acc : Int), i + f ≤ m + 1 → hwO T L m i f acc = hwO T2 L m i f acc
  | 0, _, _, _ => rfl
  | f + 1, i, acc, h2 => by
    unfold hwO
    rw [hwI_congr h (m + 1 - i) i acc (Nat.le_refl _) (by omega)]
    exact hwO_congr h f (i + 1) _ (by omega)
def bsO (T : Nat → Nat → Int) (w : Nat) : Nat → Nat → Nat → Nat
  | _, 0, b => b
  | i, f + 1, b => bsO T w (i + 1) f (if T b (b + w) < T i (i + w) then i else b)
theorem bsO_congr {T T2 : Nat → Nat → Int} {w m : Nat} (h : ∀ i j, i ≤ j → j ≤ m → T i j = T2 i j) : ∀ (f i b : Nat), i + f + w ≤ m + 1 → b + w ≤ m → bsO T w i f b = bsO T2 w i f b
  | 0, _, _, _, _ => rfl
  | f + 1, i, b, h1, h2 => by
    unfold bsO
    rw [h b (b + w) (by omega) h2, h i (i + w) (by omega) (by omega)]
    exact bsO_congr h f (i + 1) _ (by omega) (by split <;> omega)
def nrI (T : Nat → Nat → Int) (L : Int) (w : Nat) : Nat → Nat → Int
  | _, 0 => -1
  | i, f + 1 => if L ≤ T i (i + w) then ((33 * i + w : Nat) : Int) else nrI T L w (i + 1) f
def nrO (T : Nat → Nat → Int) (L : Int) (m : Nat) : Nat → Nat → Int
  | _, 0 => -1
  | w, f + 1 => if nrI T L w 0 (m + 1 - w) = -1 then nrO T L m (w + 1) f else nrI T L w 0 (m + 1 - w)
theorem nrI_congr {T T2 : Nat → Nat → Int} {L : Int} {w m : Nat} (h : ∀ i j, i ≤ j → j ≤ m → T i j = T2 i j) : ∀ (f i : Nat), i + f + w ≤ m + 1 → nrI T L w i f = nrI T2 L w i f
  | 0, _, _ => rfl
  | f + 1, i, h1 => by
    unfold nrI
    rw [h i (i + w) (by omega) (by omega), nrI_congr h f (i + 1) (by omega)]
theorem nrO_congr {T T2 : Nat → Nat → Int} {L : Int} {m : Nat} (h : ∀ i j, i ≤ j → j ≤ m → T i j = T2 i j) : ∀ (f w : Nat), w + f ≤ m + 1 → nrO T L m w f = nrO T2 L m w f
  | 0, _, _ => rfl
  | f + 1, w, h1 => by
    unfold nrO
    rw [nrI_congr h (m + 1 - w) 0 (by omega), nrO_congr h f (w + 1) (by omega)]
section CTB
variable {K : KK} {d : Nat} {V : Mem} {P : Nat → Int × Int} {n R : Nat}
theorem c_having {m : Nat} (hm : V 156 2 = m) (h20 : m ≤ 20) (L : Int) : Pu K (d + 1) mX10_having [vR 156, vI L] V (hwO (fun i j => V (158 + i) j) L m 0 (m + 1) 0) := by
  refine sX10_having L ?_
  have wqA : ∀ i, i ≤ m + 1 → ∀ acc : Int, 0 ≤ acc → acc + 21 * ((m + 1 - i : Nat) : Int) ≤ 2000 → Wf K (d + 1) mX10_having 4 [some (vR 156), some (vI L), some (vI acc), some (vI (i : Int)), none] [] V (fun r V' => ∃ z, r = some (vI z) ∧ z = hwO (fun i j => V (158 + i) j) L m i (m + 1 - i) acc ∧ V' = V) := by
    refine up_ind ?_ ?_
    · intro acc _ _
      refine sX10_having_4 _ _ _ ⟨fun _ => ⟨_, rfl, by rw [Nat.sub_self]; rfl, rfl⟩, fun c => absurd (by rw [hm]; omega) c⟩
    · intro i hi ih acc h0 hA
      refine sX10_having_4 _ _ _ ⟨fun c => absurd c (by rw [hm]; omega), fun _ => ?_⟩
      have wqB : ∀ j, j ≤ m + 1 → i ≤ j → ∀ a2 : Int, 0 ≤ a2 → a2 + ((m + 1 - j : Nat) : Int) + 21 * ((m - i : Nat) : Int) ≤ 2000 → Wf K (d + 1) mX10_having 15 [some (vR 156), some (vI L), some (vI a2), some (vI (i : Int)), some (vI (j : Int))] [] V (fun r V' => ∃ z, r = some (vI z) ∧ z = hwO (fun i j => V (158 + i) j) L m (i + 1) (m - i) (hwI (fun i j => V (158 + i) j) L i j (m + 1 - j) a2) ∧ V' = V) := by
        refine up_ind ?_ ?_
        · intro _ a2 h1 h2
          refine sX10_having_15 _ _ _ _ ⟨fun _ => ?_, fun c => absurd (by rw [hm]; omega) c⟩
          rw [w32_s (by omega), Nat.sub_self]
          have := ih a2 h1 (by omega)
          rw [show m + 1 - (i + 1) = m - i by omega] at this
          exact this
        · intro j hj ih2 hij a2 h1 h2
          refine sX10_having_15 _ _ _ _ ⟨fun c => absurd c (by rw [hm]; omega), fun _ => ?_⟩
          refine (c_lengthOf (d := d) hm h20 hij (by omega)).use ?_
          rw [w32_s (by omega), w32_id (x := a2 + 1) (by omega) (by omega), show m + 1 - j = (m + 1 - (j + 1)) + 1 by omega]
          unfold hwI
          refine ⟨fun c => ?_, fun c => ?_⟩
          · rw [if_neg c]; exact ih2 (by omega) a2 h1 (by omega)
          · rw [if_pos c]; exact ih2 (by omega) (a2 + 1) (by omega) (by omega)
      have e : m + 1 - i = (m - i) + 1 := by omega
      have := wqB i (by omega) (Nat.le_refl _) acc h0 (by omega)
      rw [e]
      unfold hwO
      exact this
  have := wqA 0 (by omega) 0 (Int.le_refl 0) (by omega)
  exact this
theorem c_bestFrom {m w : Nat} (hm : V 156 2 = m) (h20 : m ≤ 20) (hw : w ≤ m) : Pu K (d + 1) mX10_bestFrom [vR 156, vI (w : Int)] V (bsO (fun i j => V (158 + i) j) w 1 (m - w) 0) := by
  refine sX10_bestFrom w ?_
  have wqA : ∀ i, i ≤ m - w + 1 → 1 ≤ i → ∀ b : Nat, b + w ≤ m → Wf K (d + 1) mX10_bestFrom 4 [some (vR 156), some (vI (w : Int)), some (vI (b : Int)), some (vI (i : Int))] [] V (fun r V' => ∃ z, r = some (vI z) ∧ z = ((bsO (fun i j => V (158 + i) j) w i (m - w + 1 - i) b : Nat) : Int) ∧ V' = V) := by
    refine up_ind ?_ ?_
    · intro _ b hb
      refine sX10_bestFrom_4 _ _ _ ?_
      rw [hm, w32_id (x := (m : Int) - w) (by omega) (by omega)]
      refine ⟨fun _ => ⟨_, rfl, by rw [Nat.sub_self]; rfl, rfl⟩, fun c => absurd (by omega) c⟩
    · intro i hi ih h1 b hb
      refine sX10_bestFrom_4 _ _ _ ?_
      rw [hm, w32_id (x := (m : Int) - w) (by omega) (by omega)]
      refine ⟨fun c => absurd c (by omega), fun _ => ?_⟩
      have e1 : w32 ((i : Int) + w) = ((i + w : Nat) : Int) := by rw [w32_id (by omega) (by omega)]; omega
      have e2 : w32 ((b : Int) + w) = ((b + w : Nat) : Int) := by rw [w32_id (by omega) (by omega)]; omega
      rw [e1, e2, w32_s (by omega)]
      clear e1 e2
      refine (c_lengthOf (d := d) hm h20 (by omega) (by omega)).use ((c_lengthOf (d := d) hm h20 (by omega) (by omega)).use ?_)
      rw [show m - w + 1 - i = (m - w + 1 - (i + 1)) + 1 by omega]
      unfold bsO
      refine ⟨fun c => ?_, fun c => ?_⟩
      · rw [if_neg (by omega)]; exact ih (by omega) b hb
      · rw [if_pos (by omega)]; exact ih (by omega) i (by omega)
  have := wqA 1 (by omega) (Nat.le_refl _) 0 (by omega)
  exact this
theorem c_narrowest {m : Nat} (hm : V 156 2 = m) (h20 : m ≤ 20) (L : Int) : Pu K (d + 1) mX10_narrowest [vR 156, vI L] V (nrO (fun i j => V (158 + i) j) L m 0 (m + 1)) := by
  refine sX10_narrowest L ?_
  have wqA : ∀ w, w ≤ m + 1 → Wf K (d + 1) mX10_narrowest 2 [some (vR 156), some (vI L), some (vI (w : Int)), none] [] V (fun r V' => ∃ z, r = some (vI z) ∧ z = nrO (fun i j => V (158 + i) j) L m w (m + 1 - w) ∧ V' = V) := by
    refine up_ind ?_ ?_
    · refine sX10_narrowest_2 _ _ ⟨fun _ => ⟨_, rfl, by rw [Nat.sub_self]; rfl, rfl⟩, fun c => absurd (by rw [hm]; omega) c⟩
    · intro w hw ih
      refine sX10_narrowest_2 _ _ ⟨fun c => absurd c (by rw [hm]; omega), fun _ => ?_⟩
      have wqB : ∀ i, i ≤ m + 1 - w → Wf K (d + 1) mX10_narrowest 12 [some (vR 156), some (vI L), some (vI (w : Int)), some (vI (i : Int))] [] V (fun r V' => ∃ z, r = some (vI z) ∧ z = (if nrI (fun i j => V (158 + i) j) L w i (m + 1 - w - i) = -1 then nrO (fun i j => V (158 + i) j) L m (w + 1) (m - w) else nrI (fun i j => V (158 + i) j) L w i (m + 1 - w - i)) ∧ V' = V) := by
        refine up_ind ?_ ?_
        · refine sX10_narrowest_12 _ _ _ ?_
          rw [hm, w32_id (x := (m : Int) - w) (by omega) (by omega), Nat.sub_self, w32_s (by omega)]
          refine ⟨fun _ => ?_, fun c => absurd (by omega) c⟩
          have e : nrI (fun i j => V (158 + i) j) L w (m + 1 - w) 0 = -1 := rfl
          rw [if_pos e]
          rw [show m + 1 - (w + 1) = m - w by omega] at ih
          exact ih
        · intro i hi ih2
          refine sX10_narrowest_12 _ _ _ ?_
          rw [hm, w32_id (x := (m : Int) - w) (by omega) (by omega)]
          refine ⟨fun c => absurd c (by omega), fun _ => ?_⟩
          have e1 : w32 ((i : Int) + w) = ((i + w : Nat) : Int) := by rw [w32_id (by omega) (by omega)]; omega
          have e2 : w32 ((w32 ((w32 (32 * (i : Int))) + i)) + w) = ((33 * i + w : Nat) : Int) := by
            rw [w32_id (x := 32 * (i : Int)) (by omega) (by omega), w32_id (x := 32 * (i : Int) + i) (by omega) (by omega), w32_id (by omega) (by omega)]; omega
          rw [e1, e2, w32_s (by omega)]
          clear e1 e2
          refine (c_lengthOf (d := d) hm h20 (by omega) (by omega)).use ?_
          refine ⟨fun c => ?_, fun c => ⟨_, rfl, ?_, rfl⟩⟩
          · have hz : nrI (fun i j => V (158 + i) j) L w i (m + 1 - w - i) = nrI (fun i j => V (158 + i) j) L w (i + 1) (m + 1 - w - (i + 1)) := by
              rw [show m + 1 - w - i = (m + 1 - w - (i + 1)) + 1 by omega]
              exact if_neg (Int.not_le.mpr c)
            rw [hz]; exact ih2
          · have hz : nrI (fun i j => V (158 + i) j) L w i (m + 1 - w - i) = ((33 * i + w : Nat) : Int) := by
              rw [show m + 1 - w - i = (m + 1 - w - (i + 1)) + 1 by omega]
              exact if_pos (Int.not_lt.mp c)
            rw [hz, if_neg (by omega)]
      have := wqB 0 (by omega)
      rw [show m + 1 - w = (m - w) + 1 by omega]
      unfold nrO
      rw [show m + 1 - w = (m - w) + 1 by omega] at this ⊢
      exact this
  exact wqA 0 (by omega)
end CTB
