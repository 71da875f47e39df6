/-! ===== contracts: words for them ===== -/
/-- a call that answers an int -/
abbrev Mi (K : KK) (d : Nat) (y : MI) (as : List AV) (V : Mem) (P : Int → Mem → Prop) : Prop := Mf K d y as V (fun r V' => ∃ z, r = some (vI z) ∧ P z V')
/-- a call that answers nothing -/
abbrev Mv (K : KK) (d : Nat) (y : MI) (as : List AV) (V : Mem) (P : Mem → Prop) : Prop := Mf K d y as V (fun r V' => r = none ∧ P V')
theorem Mi.use {K : KK} {d : Nat} {y : MI} {as : List AV} {V : Mem} {P T : Int → Mem → Prop} (h : Mi K d y as V P) (ht : ∀ z V', P z V' → T z V') : Mi K d y as V T := h.imp (fun _ _ ⟨z, h1, h2⟩ => ⟨z, h1, ht _ _ h2⟩)
theorem Mv.use {K : KK} {d : Nat} {y : MI} {as : List AV} {V : Mem} {P T : Mem → Prop} (h : Mv K d y as V P) (ht : ∀ V', P V' → T V') : Mv K d y as V T := h.imp (fun _ _ ⟨h1, h2⟩ => ⟨h1, ht _ h2⟩)
/-- a call that answers e and writes nothing -/
abbrev Pu (K : KK) (d : Nat) (y : MI) (as : List AV) (V : Mem) (e : Int) : Prop := Mi K d y as V (fun z V' => z = e ∧ V' = V)
theorem Pu.use {K : KK} {d : Nat} {y : MI} {as : List AV} {V : Mem} {e : Int} {T : Int → Mem → Prop} (h : Pu K d y as V e) (ht : T e V) : Mi K d y as V T := Mi.use h (fun z V' ⟨h1, h2⟩ => by subst h1; subst h2; exact ht)
theorem up_ind {n : Nat} {P : Nat → Prop} (hend : P n) (hstep : ∀ i, i < n → P (i + 1) → P i) : ∀ i, i ≤ n → P i := by
  intro i hi
  obtain ⟨k, hk⟩ : ∃ k, n = i + k := ⟨n - i, by omega⟩
  induction k generalizing i with
  | zero => rw [show i = n by omega]; exact hend
  | succ k ih => exact hstep i (by omega) (ih (i + 1) (by omega) (by omega))
theorem dn_ind {P : Nat → Prop} (h0 : P 0) (hstep : ∀ i, P i → P (i + 1)) : ∀ i, P i := by
  intro i
  induction i with
  | zero => exact h0
  | succ i ih => exact hstep i ih
theorem w32_s {i : Nat} (h : i < 2147483647) : w32 ((i : Int) + 1) = ((i + 1 : Nat) : Int) := by rw [w32_id (by omega) (by omega)]; omega
theorem w32_n {i : Nat} (h : i < 2147483648) : w32 (i : Int) = (i : Int) := w32_id (by omega) (by omega)
theorem w32_p {i : Nat} (h : i < 2147483648) : w32 (((i + 1 : Nat) : Int) - 1) = (i : Int) := by rw [w32_id (by omega) (by omega)]; omega
theorem tn (i : Nat) : Int.toNat (i : Int) = i := Int.toNat_natCast i
/-- the first s below n with f s = e, or -1 -/
def isFst (f : Nat → Int) (n : Nat) (e z : Int) : Prop := (z = -1 ∧ ∀ s, s < n → f s ≠ e) ∨ ∃ s : Nat, z = (s : Int) ∧ s < n ∧ f s = e ∧ ∀ t, t < s → f t ≠ e
theorem isFst.at {f : Nat → Int} {n : Nat} {e z : Int} (h : isFst f n e z) (hz : ¬ z = -1) : ∃ s : Nat, z = (s : Int) ∧ s < n ∧ f s = e ∧ ∀ t, t < s → f t ≠ e := h.elim (fun q => absurd q.1 hz) id
theorem isFst.un {f : Nat → Int} {n : Nat} {e z z2 : Int} (h : isFst f n e z) (h2 : isFst f n e z2) : z = z2 := by
  rcases h with ⟨h, q⟩ | ⟨s, h, q1, q2, q3⟩ <;> rcases h2 with ⟨h2, p⟩ | ⟨t, h2, p1, p2, p3⟩
  · rw [h, h2]
  · exact absurd p2 (q t p1)
  · exact absurd q2 (p s q1)
  · rcases Nat.lt_trichotomy s t with a | a | a
    · exact absurd q2 (p3 s a)
    · rw [h, h2, a]
    · exact absurd p2 (q3 t a)
/-! ===== Braid ===== -/
section CBR
variable {K : KK} {d : Nat} {V : Mem}
theorem c_strandAt {a : Nat} (h0 : IsBraid a) {n : Nat} (hn : V a 2 = n) (h10 : n ≤ 10) (e : Int) : Mi K d mX0_strandAt [vR a, vI e] V (fun z V' => isFst (V (a + 1)) n e z ∧ V' = V) := by
  refine sX0_strandAt a e h0 ?_
  have H : ∀ i, i ≤ n → (∀ t, t < i → V (a + 1) t ≠ e) → Wf K d mX0_strandAt 2 [some (vR a), some (vI e), some (vI (i : Int))] [] V (fun r V' => ∃ z, r = some (vI z) ∧ (isFst (V (a + 1)) n e z ∧ V' = V)) := by
    refine up_ind ?_ ?_
    · intro hb
      refine sX0_strandAt_2 a e n h0 ⟨fun _ => ⟨_, rfl, Or.inl ⟨rfl, hb⟩, rfl⟩, fun c => absurd (by rw [hn]; exact Int.le_refl _) c⟩
    · intro i hi ih hb
      refine sX0_strandAt_2 a e i h0 ⟨fun c => absurd c (by rw [hn]; omega), fun _ => ⟨⟨by omega, by omega⟩, fun c => ?_, fun c => ?_⟩⟩
      · rw [w32_s (by omega)]
        rw [tn] at c
        exact ih (fun t ht => by
          rcases Nat.lt_or_ge t i with q | q
          · exact hb t q
          · rw [show t = i by omega]; exact c)
      · rw [tn] at c
        exact ⟨_, rfl, Or.inr ⟨i, rfl, hi, c, hb⟩, rfl⟩
  exact H 0 (Nat.zero_le n) (fun t ht => absurd ht (Nat.not_lt_zero t))
end CBR
