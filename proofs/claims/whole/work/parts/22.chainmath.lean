/-! ===== mathematics of chains: the longest one that ends at a place, begins at a place; of a window ===== -/
/-- m is the most of E over those of lo .. hi-1 with P, 0 if there is none -/
def Emx (P : Nat → Prop) (E : Nat → Int) (lo hi : Nat) (m : Int) : Prop := 0 ≤ m ∧ (∀ q, lo ≤ q → q < hi → P q → E q ≤ m) ∧ (m = 0 ∨ ∃ q, lo ≤ q ∧ q < hi ∧ P q ∧ E q = m)
theorem Emx.un {P : Nat → Prop} {E E2 : Nat → Int} {lo hi : Nat} {m m2 : Int} (h : Emx P E lo hi m) (h2 : Emx P E2 lo hi m2) (he : ∀ q, lo ≤ q → q < hi → E q = E2 q) : m = m2 := by
  obtain ⟨a1, a2, a3⟩ := h
  obtain ⟨b1, b2, b3⟩ := h2
  have l1 : m ≤ m2 := by
    rcases a3 with q | ⟨q, q1, q2, q3, q4⟩
    · omega
    · rw [← q4, he q q1 q2]; exact b2 q q1 q2 q3
  have l2 : m2 ≤ m := by
    rcases b3 with q | ⟨q, q1, q2, q3, q4⟩
    · omega
    · rw [← q4, ← he q q1 q2]; exact a2 q q1 q2 q3
  omega
theorem Emx.congr {P P2 : Nat → Prop} {E E2 : Nat → Int} {lo hi : Nat} {m : Int} (h : Emx P E lo hi m) (hp : ∀ q, lo ≤ q → q < hi → (P q ↔ P2 q)) (he : ∀ q, lo ≤ q → q < hi → E q = E2 q) : Emx P2 E2 lo hi m := by
  obtain ⟨a1, a2, a3⟩ := h
  refine ⟨a1, fun q q1 q2 q3 => by rw [← he q q1 q2]; exact a2 q q1 q2 ((hp q q1 q2).mpr q3), a3.imp id ?_⟩
  rintro ⟨q, q1, q2, q3, q4⟩
  exact ⟨q, q1, q2, (hp q q1 q2).mp q3, by rw [← he q q1 q2]; exact q4⟩
theorem Emx.nil {P : Nat → Prop} {E : Nat → Int} {lo hi : Nat} (h : hi ≤ lo) : Emx P E lo hi 0 := ⟨Int.le_refl 0, fun q q1 q2 _ => by omega, Or.inl rfl⟩
/-- one more, behind -/
theorem Emx.skip {P : Nat → Prop} {E : Nat → Int} {lo hi : Nat} {m : Int} (h : Emx P E lo hi m) (hs : P hi → E hi ≤ m) : Emx P E lo (hi + 1) m := by
  obtain ⟨a1, a2, a3⟩ := h
  refine ⟨a1, fun q q1 q2 q3 => ?_, a3.imp id ?_⟩
  · rcases Nat.lt_or_ge q hi with z | z
    · exact a2 q q1 z q3
    · have : q = hi := by omega
      subst this
      exact hs q3
  · rintro ⟨q, q1, q2, q3⟩
    exact ⟨q, q1, by omega, q3⟩
theorem Emx.take {P : Nat → Prop} {E : Nat → Int} {lo hi : Nat} {m : Int} (h : Emx P E lo hi m) (hl : lo ≤ hi) (hs : P hi) (hm : m ≤ E hi) : Emx P E lo (hi + 1) (E hi) := by
  obtain ⟨a1, a2, a3⟩ := h
  refine ⟨by omega, fun q q1 q2 q3 => ?_, Or.inr ⟨hi, hl, by omega, hs, rfl⟩⟩
  rcases Nat.lt_or_ge q hi with z | z
  · have := a2 q q1 z q3
    omega
  · have : q = hi := by omega
    subst this
    exact Int.le_refl _
theorem Emx.ex (P : Nat → Prop) (E : Nat → Int) (lo : Nat) : ∀ n, ∃ m, Emx P E lo (lo + n) m
  | 0 => ⟨0, Emx.nil (Nat.le_refl _)⟩
  | n + 1 => by
    obtain ⟨m, hm⟩ := Emx.ex P E lo n
    by_cases h : P (lo + n) ∧ m ≤ E (lo + n)
    · exact ⟨_, hm.take (by omega) h.1 h.2⟩
    · refine ⟨m, hm.skip (fun q => ?_)⟩
      rcases Int.lt_or_le (E (lo + n)) m with z | z
      · omega
      · exact absurd ⟨q, z⟩ h
def isEnd (F : Nat → Nat → Prop) (lo hi : Nat) (E : Nat → Int) : Prop := ∀ p, lo ≤ p → p < hi → Emx (F p) E lo p (E p - 1)
def isSta (F : Nat → Nat → Prop) (lo hi : Nat) (B : Nat → Int) : Prop := ∀ p, lo ≤ p → p < hi → Emx (fun q => F q p) B (p + 1) hi (B p - 1)
theorem isEnd.nil {F : Nat → Nat → Prop} {lo hi : Nat} {E : Nat → Int} (h : hi ≤ lo) : isEnd F lo hi E := fun p h1 h2 => by omega
theorem isSta.nil {F : Nat → Nat → Prop} {lo hi : Nat} {E : Nat → Int} (h : hi ≤ lo) : isSta F lo hi E := fun p h1 h2 => by omega
theorem isEnd.mono {F : Nat → Nat → Prop} {lo hi hi2 : Nat} {E : Nat → Int} (h : isEnd F lo hi E) (h2 : hi2 ≤ hi) : isEnd F lo hi2 E := fun p a b => h p a (by omega)
theorem isEnd.push {F : Nat → Nat → Prop} {lo p : Nat} {E E2 : Nat → Int} {m : Int} (h : isEnd F lo p E) (hm : Emx (F p) E lo p m) (he : ∀ q, q < p → E2 q = E q) (hp : E2 p = m + 1) : isEnd F lo (p + 1) E2 := by
  intro q h1 h2
  rcases Nat.lt_or_ge q p with z | z
  · rw [he q z]
    exact (h q h1 z).congr (fun _ _ _ => Iff.rfl) (fun t _ ht => (he t (by omega)).symm)
  · have : q = p := by omega
    subst this
    rw [hp, Int.add_sub_cancel]
    exact hm.congr (fun _ _ _ => Iff.rfl) (fun t _ ht => (he t ht).symm)
theorem isSta.push {F : Nat → Nat → Prop} {p hi : Nat} {E E2 : Nat → Int} {m : Int} (h : isSta F (p + 1) hi E) (hm : Emx (fun q => F q p) E (p + 1) hi m) (he : ∀ q, p < q → E2 q = E q) (hp : E2 p = m + 1) : isSta F p hi E2 := by
  intro q h1 h2
  rcases Nat.lt_or_ge p q with z | z
  · rw [he q z]
    exact (h q z h2).congr (fun _ _ _ => Iff.rfl) (fun t ht _ => (he t (by omega)).symm)
  · have : q = p := by omega
    subst this
    rw [hp, Int.add_sub_cancel]
    exact hm.congr (fun _ _ _ => Iff.rfl) (fun t ht _ => (he t (by omega)).symm)
theorem isEnd.ge {F : Nat → Nat → Prop} {lo hi : Nat} {E : Nat → Int} (h : isEnd F lo hi E) {p : Nat} (h1 : lo ≤ p) (h2 : p < hi) : 1 ≤ E p := by have := (h p h1 h2).1; omega
theorem isSta.ge {F : Nat → Nat → Prop} {lo hi : Nat} {E : Nat → Int} (h : isSta F lo hi E) {p : Nat} (h1 : lo ≤ p) (h2 : p < hi) : 1 ≤ E p := by have := (h p h1 h2).1; omega
theorem isEnd.le {F : Nat → Nat → Prop} {lo hi : Nat} {E : Nat → Int} (h : isEnd F lo hi E) : ∀ p, lo ≤ p → p < hi → E p ≤ (p : Int) - lo + 1 := by
  intro p
  induction p using Nat.strongRecOn with
  | ind p ih =>
    intro h1 h2
    rcases (h p h1 h2).2.2 with z | ⟨q, q1, q2, q3, q4⟩
    · omega
    · have := ih q q2 q1 (by omega)
      omega
theorem isSta.le {F : Nat → Nat → Prop} {lo hi : Nat} {E : Nat → Int} (h : isSta F lo hi E) : ∀ k p, hi - p = k → lo ≤ p → p < hi → E p ≤ (hi : Int) - p := by
  intro k
  induction k using Nat.strongRecOn with
  | ind k ih =>
    intro p hk h1 h2
    rcases (h p h1 h2).2.2 with z | ⟨q, q1, q2, q3, q4⟩
    · omega
    · have := ih (hi - q) (by omega) q rfl (by omega) q2
      omega
theorem isEnd.un {F : Nat → Nat → Prop} {lo hi : Nat} {E E2 : Nat → Int} (h : isEnd F lo hi E) (h2 : isEnd F lo hi E2) : ∀ p, lo ≤ p → p < hi → E p = E2 p := by
  intro p
  induction p using Nat.strongRecOn with
  | ind p ih =>
    intro a b
    have := (h p a b).un (h2 p a b) (fun q q1 q2 => ih q q2 q1 (by omega))
    omega
theorem isSta.un {F : Nat → Nat → Prop} {lo hi : Nat} {E E2 : Nat → Int} (h : isSta F lo hi E) (h2 : isSta F lo hi E2) : ∀ k p, hi - p = k → lo ≤ p → p < hi → E p = E2 p := by
  intro k
  induction k using Nat.strongRecOn with
  | ind k ih =>
    intro p hk a b
    have := (h p a b).un (h2 p a b) (fun q q1 q2 => ih (hi - q) (by omega) q rfl (by omega) q2)
    omega
theorem isEnd.ex (F : Nat → Nat → Prop) (lo : Nat) : ∀ n, ∃ E, isEnd F lo (lo + n) E
  | 0 => ⟨fun _ => 0, isEnd.nil (Nat.le_refl _)⟩
  | n + 1 => by
    obtain ⟨E, hE⟩ := isEnd.ex F lo n
    obtain ⟨m, hm⟩ := Emx.ex (F (lo + n)) E lo n
    exact ⟨fun q => if q = lo + n then m + 1 else E q, hE.push hm (fun q hq => if_neg (by omega)) (if_pos rfl)⟩
theorem lw_ex (F : Nat → Nat → Prop) (lo hi : Nat) : ∃ z : Int, ∃ E, isEnd F lo hi E ∧ Emx (fun _ => True) E lo hi z := by
  rcases Nat.le_total lo hi with h | h
  · obtain ⟨k, rfl⟩ : ∃ k, hi = lo + k := ⟨hi - lo, by omega⟩
    obtain ⟨E, hE⟩ := isEnd.ex F lo k
    obtain ⟨m, hm⟩ := Emx.ex (fun _ => True) E lo k
    exact ⟨m, E, hE, hm⟩
  · exact ⟨0, fun _ => 0, isEnd.nil h, Emx.nil h⟩
/-- how long the longest chain of the window lo .. hi-1 is -/
noncomputable def lw (F : Nat → Nat → Prop) (lo hi : Nat) : Int := Classical.choose (lw_ex F lo hi)
theorem lw_eq {F : Nat → Nat → Prop} {lo hi : Nat} {E : Nat → Int} {z : Int} (hE : isEnd F lo hi E) (hz : Emx (fun _ => True) E lo hi z) : lw F lo hi = z := by
  obtain ⟨E2, h1, h2⟩ := Classical.choose_spec (lw_ex F lo hi)
  exact h2.un hz (h1.un hE)
theorem lw_nil {F : Nat → Nat → Prop} {lo hi : Nat} (h : hi ≤ lo) : lw F lo hi = 0 := lw_eq (E := fun _ => 0) (isEnd.nil h) (Emx.nil h)
theorem lw_r {F : Nat → Nat → Prop} {lo hi : Nat} (h : lo ≤ hi) : 0 ≤ lw F lo hi ∧ lw F lo hi ≤ (hi : Int) - lo := by
  obtain ⟨E, h1, h2⟩ := Classical.choose_spec (lw_ex F lo hi)
  have e : lw F lo hi = Classical.choose (lw_ex F lo hi) := rfl
  rw [← e] at h2
  refine ⟨h2.1, ?_⟩
  rcases h2.2.2 with z | ⟨q, q1, q2, q3, q4⟩
  · omega
  · have := h1.le q q1 q2
    omega
theorem isEnd.congr {F F2 : Nat → Nat → Prop} {lo hi : Nat} {E : Nat → Int} (h : isEnd F lo hi E) (hF : ∀ p q, lo ≤ q → q < p → p < hi → (F p q ↔ F2 p q)) : isEnd F2 lo hi E := fun p a b => (h p a b).congr (fun q q1 q2 => hF p q q1 q2 b) (fun _ _ _ => rfl)
theorem isSta.congr {F F2 : Nat → Nat → Prop} {lo hi : Nat} {E : Nat → Int} (h : isSta F lo hi E) (hF : ∀ p q, lo ≤ q → q < p → p < hi → (F p q ↔ F2 p q)) : isSta F2 lo hi E := fun p a b => (h p a b).congr (fun q q1 q2 => hF q p a (by omega) q2) (fun _ _ _ => rfl)
theorem lw_congr {F F2 : Nat → Nat → Prop} {lo hi : Nat} (hF : ∀ p q, lo ≤ q → q < p → p < hi → (F p q ↔ F2 p q)) : lw F lo hi = lw F2 lo hi := by
  obtain ⟨E, h1, h2⟩ := Classical.choose_spec (lw_ex F lo hi)
  exact (lw_eq (h1.congr hF) h2).symm
