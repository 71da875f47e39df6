/-! ===== contracts of small methods ===== -/
/-- a later number x may follow an earlier one y, by the kind k -/
abbrev fol (k x y : Int) : Prop := (k = 0 ∧ y < x) ∨ (k = 1 ∧ y ≤ x) ∨ (k = 2 ∧ x < y) ∨ (k = 3 ∧ x ≤ y)
section CLF
variable {K : KK} {d : Nat} {V : Mem}
theorem c_mayFollow {a : Nat} (h0 : IsChains a) (hk : 0 ≤ V a 6 ∧ V a 6 ≤ 3) (x z : Int) : Pu K d mX1_mayFollow [vR a, vI x, vI z] V (if fol (V a 6) x z then 1 else 0) := by
  refine sX1_mayFollow a x z h0 ?_
  generalize V a 6 = k at hk ⊢
  refine ⟨fun h => ?_, fun h => ?_, fun h => ?_, fun h => ?_⟩ <;> refine ⟨fun h2 => ?_, fun h2 => ?_⟩ <;> exact ⟨_, rfl, by split <;> omega, rfl⟩
theorem c_follows {a : Nat} (h0 : IsChains a) (hk : 0 ≤ V a 6 ∧ V a 6 ≤ 3) {p q : Nat} (hp : p < 20) (hq : q < 20) : Pu K (d + 1) mX1_follows [vR a, vI (p : Int), vI (q : Int)] V (if fol (V a 6) (V (a + 1) p) (V (a + 1) q) then 1 else 0) := by
  refine sX1_follows a p q h0 ⟨⟨by omega, by omega⟩, ⟨by omega, by omega⟩, ?_⟩
  rw [tn, tn]
  refine (c_mayFollow h0 hk _ _).use ⟨?_, _, rfl, rfl, rfl⟩
  split
  · exact Or.inr rfl
  · exact Or.inl rfl
theorem m_follows (hk : 0 ≤ V 369 22 ∧ V 369 22 ≤ 3) (x z : Int) : Pu K d mX12_follows [vR 369, vI x, vI z] V (if fol (V 369 22) x z then 1 else 0) := by
  refine sX12_follows x z ?_
  generalize V 369 22 = k at hk ⊢
  refine ⟨fun h => ?_, fun h => ?_, fun h => ?_, fun h => ?_⟩ <;> refine ⟨fun h2 => ?_, fun h2 => ?_⟩ <;> exact ⟨_, rfl, by split <;> omega, rfl⟩
theorem c_lengthOf {p q : Nat} {n : Nat} (hn : V 156 2 = n) (h20 : n ≤ 20) (hpq : p ≤ q) (hq : q ≤ n) : Pu K d mX10_lengthOf [vR 156, vI (p : Int), vI (q : Int)] V (V (158 + p) q) := by
  refine sX10_lengthOf p q ⟨fun h => ?_, fun h => ⟨fun h => ?_, fun h => ⟨fun h => ?_, fun h => ⟨fun h => ?_, fun h => ?_⟩⟩⟩⟩
  · omega
  · omega
  · omega
  · refine ⟨⟨by omega, by omega⟩, ⟨by omega, by omega⟩, _, rfl, ?_, rfl⟩
    rw [tn, tn, Nat.one_mul]
  · omega
/-- what a window leaves, of a table T of lengths -/
def lft (T : Nat → Nat → Int) (p q : Nat) : Int := if p ≤ q then (q : Int) - p - T p q else 0
theorem c_left {p q : Nat} {n : Nat} (hn : V 156 2 = n) (h20 : n ≤ 20) (hq : q ≤ n) (hb : ∀ i j, i ≤ j → j ≤ n → 0 ≤ V (158 + i) j ∧ V (158 + i) j ≤ 20) : Pu K (d + 1) mX10_left [vR 156, vI (p : Int), vI (q : Int)] V (lft (fun i j => V (158 + i) j) p q) := by
  refine sX10_left p q ⟨fun h => ?_, fun h => ?_⟩
  · have hpq : p ≤ q := by omega
    refine (c_lengthOf hn h20 hpq hq).use ⟨_, rfl, ?_, rfl⟩
    have := hb p q hpq hq
    unfold lft
    rw [if_pos hpq, w32_id (x := (q : Int) - p) (by omega) (by omega), w32_id (by omega) (by omega)]
  · refine ⟨_, rfl, ?_, rfl⟩
    unfold lft
    rw [if_neg (by omega)]
theorem m_bareAt {p q : Nat} {n : Nat} (h20 : n ≤ 20) (hp : p ≤ 20) (hq : q ≤ n) (hb : ∀ i j, i ≤ j → j ≤ n → 0 ≤ V 384 (21 * i + j) ∧ V 384 (21 * i + j) ≤ 20) : Pu K (d + 1) mX12_bareAt [vR 369, vI (p : Int), vI (q : Int)] V (lft (fun i j => V 384 (21 * i + j)) p q) := by
  have e : w32 ((w32 (21 * (p : Int))) + q) = ((21 * p + q : Nat) : Int) := by
    rw [w32_id (x := 21 * (p : Int)) (by omega) (by omega), w32_id (by omega) (by omega)]; omega
  refine sX12_bareAt p q ⟨fun h => ?_, fun h => ?_⟩
  · have hpq : p ≤ q := by omega
    rw [e, tn]
    have := hb p q hpq hq
    refine ⟨⟨by omega, by omega⟩, _, rfl, ?_, rfl⟩
    unfold lft
    rw [if_pos hpq, w32_id (x := (q : Int) - p) (by omega) (by omega), w32_id (by omega) (by omega)]
  · refine ⟨_, rfl, ?_, rfl⟩
    unfold lft
    rw [if_neg (by omega)]
theorem c_hasPlace {a : Nat} (h0 : IsRow a) (x : Int) : Pu K d mX6_hasPlace [vR a, vI x] V (if 0 ≤ x ∧ x < V a 3 ∧ x < 20 then 1 else 0) := by
  refine sX6_hasPlace a x h0 ?_
  generalize V a 3 = k
  refine ⟨fun h => ?_, fun h => ⟨fun h => ?_, fun h => ⟨fun h => ?_, fun h => ?_⟩⟩⟩ <;> exact ⟨_, rfl, by split <;> omega, rfl⟩
theorem c_hasStrand {a : Nat} (h0 : IsBraid a) (x : Int) : Pu K d mX0_hasStrand [vR a, vI x] V (if 0 ≤ x ∧ x < V a 2 ∧ x < 10 then 1 else 0) := by
  refine sX0_hasStrand a x h0 ?_
  generalize V a 2 = k
  refine ⟨fun h => ?_, fun h => ⟨fun h => ?_, fun h => ⟨fun h => ?_, fun h => ?_⟩⟩⟩ <;> exact ⟨_, rfl, by split <;> omega, rfl⟩
theorem m_isRow (x : Int) : Pu K (d + 1) mX12_isRow [vR 369, vI x] V (if 0 ≤ x ∧ x < V 375 0 then 1 else 0) := by
  refine sX12_isRow x ?_
  generalize V 375 0 = k
  refine ⟨fun h => ?_, fun h => ⟨fun h => ?_, fun h => ?_⟩⟩ <;> exact ⟨_, rfl, by split <;> omega, rfl⟩
theorem m_isBraid (x : Int) : Pu K d mX12_isBraid [vR 369, vI x] V (if 0 ≤ x ∧ x < V 381 84 then 1 else 0) := by
  refine sX12_isBraid x ?_
  generalize V 381 84 = k
  refine ⟨fun h => ?_, fun h => ⟨fun h => ?_, fun h => ?_⟩⟩ <;> exact ⟨_, rfl, by split <;> omega, rfl⟩
theorem m_within (x y z : Int) : Pu K d mX12_within [vI x, vI y, vI z] V (if y ≤ x ∧ x ≤ z then 1 else 0) := by
  refine sX12_within x y z ?_
  refine ⟨fun h => ?_, fun h => ⟨fun h => ?_, fun h => ?_⟩⟩ <;> exact ⟨_, rfl, by split <;> omega, rfl⟩
theorem m_isPlace (hr : V 375 0 ≤ 4) (x z : Int) : Pu K (d + 2) mX12_isPlace [vR 369, vI x, vI z] V (if 0 ≤ x ∧ x < V 375 0 ∧ 0 ≤ z ∧ z < V 381 x.toNat then 1 else 0) := by
  refine sX12_isPlace x z ((m_isRow x).use ⟨fun h => ?_, fun h => ⟨fun h2 => ?_, fun h2 => ?_⟩⟩)
  · refine ⟨_, rfl, ?_, rfl⟩
    rw [if_neg]
    intro q
    rw [if_pos ⟨q.1, q.2.1⟩] at h
    cases h
  · refine ⟨_, rfl, ?_, rfl⟩
    rw [if_neg (by omega)]
  · have hx : 0 ≤ x ∧ x < V 375 0 := by
      rcases Decidable.em (0 ≤ x ∧ x < V 375 0) with q | q
      · exact q
      · rw [if_neg q] at h; exact absurd rfl h
    have e : w32 (0 + x) = x := by rw [w32_id (by omega) (by omega)]; omega
    rw [e]
    refine ⟨⟨by omega, by omega⟩, fun h3 => ⟨_, rfl, ?_, rfl⟩, fun h3 => ⟨_, rfl, ?_, rfl⟩⟩
    · rw [if_neg (by omega)]
    · rw [if_pos (by omega)]
theorem m_isWindow (hr : V 375 0 ≤ 4) (x z u : Int) : Pu K (d + 2) mX12_isWindow [vR 369, vI x, vI z, vI u] V (if 0 ≤ x ∧ x < V 375 0 ∧ 0 ≤ z ∧ z ≤ u ∧ u ≤ V 381 x.toNat then 1 else 0) := by
  refine sX12_isWindow x z u ((m_isRow x).use ⟨fun h => ?_, fun h => ⟨fun h2 => ?_, fun h2 => ⟨fun h4 => ?_, fun h4 => ?_⟩⟩⟩)
  · refine ⟨_, rfl, ?_, rfl⟩
    rw [if_neg]
    intro q
    rw [if_pos ⟨q.1, q.2.1⟩] at h
    cases h
  · refine ⟨_, rfl, ?_, rfl⟩
    rw [if_neg (by omega)]
  · refine ⟨_, rfl, ?_, rfl⟩
    rw [if_neg (by omega)]
  · have hx : 0 ≤ x ∧ x < V 375 0 := by
      rcases Decidable.em (0 ≤ x ∧ x < V 375 0) with q | q
      · exact q
      · rw [if_neg q] at h; exact absurd rfl h
    have e : w32 (0 + x) = x := by rw [w32_id (by omega) (by omega)]; omega
    rw [e]
    refine ⟨⟨by omega, by omega⟩, fun h3 => ⟨_, rfl, ?_, rfl⟩, fun h3 => ⟨_, rfl, ?_, rfl⟩⟩
    · rw [if_neg (by omega)]
    · rw [if_pos (by omega)]
end CLF
