/-! ===== the longest chains counted by their ends are as many as counted by their beginnings ===== -/
noncomputable def ind (P : Prop) (x : Int) : Int := @ite Int P (Classical.propDecidable _) x 0
theorem ind_t {P : Prop} {x : Int} (h : P) : ind P x = x := by unfold ind; rw [if_pos h]
theorem ind_f {P : Prop} {x : Int} (h : ¬ P) : ind P x = 0 := by unfold ind; rw [if_neg h]
def Sg (f : Nat → Int) (lo : Nat) : Nat → Int
  | 0 => 0
  | n + 1 => Sg f lo n + f (lo + n)
theorem Sg_congr {f g : Nat → Int} {lo : Nat} : ∀ n, (∀ p, lo ≤ p → p < lo + n → f p = g p) → Sg f lo n = Sg g lo n
  | 0, _ => rfl
  | n + 1, h => by
    show Sg f lo n + f (lo + n) = Sg g lo n + g (lo + n)
    rw [Sg_congr n (fun p a b => h p a (by omega)), h (lo + n) (by omega) (by omega)]
theorem Sg_0 {f : Nat → Int} {lo : Nat} : ∀ n, (∀ p, lo ≤ p → p < lo + n → f p = 0) → Sg f lo n = 0
  | 0, _ => rfl
  | n + 1, h => by
    show Sg f lo n + f (lo + n) = 0
    rw [Sg_0 n (fun p a b => h p a (by omega)), h (lo + n) (by omega) (by omega)]; rfl
theorem Sg_add {f g : Nat → Int} {lo : Nat} : ∀ n, Sg (fun p => f p + g p) lo n = Sg f lo n + Sg g lo n
  | 0 => rfl
  | n + 1 => by
    show Sg (fun p => f p + g p) lo n + (f (lo + n) + g (lo + n)) = (Sg f lo n + f (lo + n)) + (Sg g lo n + g (lo + n))
    rw [Sg_add n]; omega
theorem Sg_mul {f : Nat → Int} {lo : Nat} (c : Int) : ∀ n, Sg (fun p => c * f p) lo n = c * Sg f lo n
  | 0 => (Int.mul_zero c).symm
  | n + 1 => by
    show Sg (fun p => c * f p) lo n + c * f (lo + n) = c * (Sg f lo n + f (lo + n))
    rw [Sg_mul c n, Int.mul_add]
theorem Sg_swap {g : Nat → Nat → Int} {lo m : Nat} : ∀ n, Sg (fun q => Sg (fun p => g p q) lo n) lo m = Sg (fun p => Sg (fun q => g p q) lo m) lo n
  | 0 => Sg_0 m (fun _ _ _ => rfl)
  | n + 1 => by
    show Sg (fun q => Sg (fun p => g p q) lo n + g (lo + n) q) lo m = Sg (fun p => Sg (fun q => g p q) lo m) lo n + Sg (fun q => g (lo + n) q) lo m
    rw [Sg_add, Sg_swap n]
theorem sm_Sg {P : Nat → Prop} {f : Nat → Int} {lo : Nat} : ∀ n, sm P f lo n = Sg (fun p => ind (P p) (f p)) lo n
  | 0 => rfl
  | n + 1 => by
    show sm P f lo n + @ite Int (P (lo + n)) (Classical.propDecidable _) (f (lo + n)) 0 = Sg (fun p => ind (P p) (f p)) lo n + ind (P (lo + n)) (f (lo + n))
    rw [sm_Sg n]; rfl
theorem sm_ext {P : Nat → Prop} {f : Nat → Int} {lo k : Nat} : ∀ j, sm P f lo k = sm (fun q => q < lo + k ∧ P q) f lo (k + j)
  | 0 => sm_congr k (fun q a b => ⟨fun h => ⟨b, h⟩, fun h => h.2⟩) (fun _ _ _ _ => rfl)
  | j + 1 => by
    rw [show k + (j + 1) = (k + j) + 1 by omega, sm_f (fun h => by have := h.1; omega)]
    exact sm_ext j
/-- O: the ways from each place on, by B -/
def isOn (F : Nat → Nat → Prop) (lo hi : Nat) (B O : Nat → Int) : Prop := ∀ p, lo ≤ p → p < hi → O p = if B p = 1 then 1 else sm (fun q => p < q ∧ F q p ∧ B q = B p - 1) O lo (hi - lo)
section WMA
variable {F : Nat → Nat → Prop} {lo hi : Nat} {E B W O : Nat → Int} {L : Int}
/-- through each place no chain is longer than the longest -/
theorem eb_le (hE : isEnd F lo hi E) (hB : isSta F lo hi B) (hL : ∀ p, lo ≤ p → p < hi → E p ≤ L) : ∀ (k p : Nat), hi - p = k → lo ≤ p → p < hi → E p + B p - 1 ≤ L := by
  intro k
  induction k using Nat.strongRecOn with
  | ind k ih =>
    intro p hk h1 h2
    rcases (hB p h1 h2).2.2 with z | ⟨q, q1, q2, q3, q4⟩
    · have := hL p h1 h2; omega
    · have h3 := ih (hi - q) (by omega) q rfl (by omega) q2
      have h4 := (hE q (by omega) q2).2.1 p h1 (by omega) q3
      omega
theorem ways_step (hE : isEnd F lo hi E) (hB : isSta F lo hi B) (hW : isWay F lo hi E W) (hO : isOn F lo hi B O) (hL : ∀ p, lo ≤ p → p < hi → E p ≤ L) (hlh : lo ≤ hi) {l : Int} (h1 : 1 ≤ l) (h2 : l < L) : Sg (fun p => ind (E p = l ∧ B p = L - l + 1) (W p * O p)) lo (hi - lo) = Sg (fun p => ind (E p = l + 1 ∧ B p = L - (l + 1) + 1) (W p * O p)) lo (hi - lo) := by
  have eb := fun p a b => eb_le hE hB hL _ p rfl a b
  have key1 : ∀ p, lo ≤ p → p < lo + (hi - lo) → ind (E p = l ∧ B p = L - l + 1) (W p * O p) = Sg (fun q => ind (p < q ∧ F q p ∧ E p = l ∧ B q = L - l) (W p * O q)) lo (hi - lo) := by
    intro p a b
    have b' : p < hi := by omega
    by_cases e : E p = l
    · by_cases c : B p = L - l + 1
      · rw [ind_t ⟨e, c⟩, hO p a b', if_neg (by omega), sm_Sg, ← Sg_mul]
        refine Sg_congr _ (fun q q1 q2 => ?_)
        by_cases g : p < q ∧ F q p ∧ B q = B p - 1
        · rw [ind_t g, ind_t ⟨g.1, g.2.1, e, by have := g.2.2; omega⟩]
        · rw [ind_f g, ind_f (fun h => g ⟨h.1, h.2.1, by have := h.2.2.2; omega⟩), Int.mul_zero]
      · rw [ind_f (fun h => c h.2)]
        refine (Sg_0 _ (fun q q1 q2 => ind_f (fun h => ?_))).symm
        have h3 := (hB p a b').2.1 q (by have := h.1; omega) (by omega) h.2.1
        have h4 := eb p a b'
        have h5 := h.2.2.2
        omega
    · rw [ind_f (fun h => e h.1)]
      exact (Sg_0 _ (fun q q1 q2 => ind_f (fun h => e h.2.2.1))).symm
  have key2 : ∀ q, lo ≤ q → q < lo + (hi - lo) → ind (E q = l + 1 ∧ B q = L - (l + 1) + 1) (W q * O q) = Sg (fun p => ind (p < q ∧ F q p ∧ E p = l ∧ B q = L - l) (W p * O q)) lo (hi - lo) := by
    intro q a b
    have b' : q < hi := by omega
    by_cases c : B q = L - l
    · by_cases e : E q = l + 1
      · rw [ind_t ⟨e, by omega⟩, hW q a b']
        unfold wy
        rw [if_neg (by omega), sm_ext (hi - q), show q - lo + (hi - q) = hi - lo by omega, sm_Sg, Int.mul_comm, ← Sg_mul]
        refine Sg_congr _ (fun p q1 q2 => ?_)
        by_cases g : p < lo + (q - lo) ∧ F q p ∧ E p = E q - 1
        · rw [ind_t g, ind_t ⟨by have := g.1; omega, g.2.1, by have := g.2.2; omega, c⟩, Int.mul_comm]
        · rw [ind_f g, ind_f (fun h => g ⟨by have := h.1; omega, h.2.1, by have := h.2.2.1; omega⟩), Int.mul_zero]
      · rw [ind_f (fun h => e h.1)]
        refine (Sg_0 _ (fun p q1 q2 => ind_f (fun h => ?_))).symm
        have h3 := (hE q a b').2.1 p q1 h.1 h.2.1
        have h4 := eb q a b'
        have h5 := h.2.2.1
        omega
    · rw [ind_f (fun h => c (by have := h.2; omega))]
      exact (Sg_0 _ (fun p q1 q2 => ind_f (fun h => c h.2.2.2))).symm
  rw [Sg_congr _ key1, Sg_congr _ key2]
  exact (Sg_swap _).symm
theorem ways_eq (hE : isEnd F lo hi E) (hB : isSta F lo hi B) (hW : isWay F lo hi E W) (hO : isOn F lo hi B O) (hL : ∀ p, lo ≤ p → p < hi → E p ≤ L) (hlh : lo ≤ hi) (hL1 : 1 ≤ L) : sm (fun p => E p = L) W lo (hi - lo) = sm (fun p => B p = L) O lo (hi - lo) := by
  have eb := fun p a b => eb_le hE hB hL _ p rfl a b
  have chain : ∀ k : Nat, 1 + (k : Int) ≤ L → Sg (fun p => ind (E p = 1 ∧ B p = L - 1 + 1) (W p * O p)) lo (hi - lo) = Sg (fun p => ind (E p = 1 + (k : Int) ∧ B p = L - (1 + (k : Int)) + 1) (W p * O p)) lo (hi - lo) := by
    intro k
    induction k with
    | zero => intro _; rfl
    | succ k ih =>
      intro hk
      rw [ih (by omega), ways_step hE hB hW hO hL hlh (l := 1 + (k : Int)) (by omega) (by omega)]
      have e : 1 + (k : Int) + 1 = 1 + ((k + 1 : Nat) : Int) := by omega
      rw [e]
  have c := chain (L - 1).toNat (by omega)
  have eL : 1 + (((L - 1).toNat : Nat) : Int) = L := by omega
  rw [eL] at c
  rw [sm_Sg, sm_Sg]
  have l1 : Sg (fun p => ind (E p = L ∧ B p = L - L + 1) (W p * O p)) lo (hi - lo) = Sg (fun p => ind (E p = L) (W p)) lo (hi - lo) := by
    refine Sg_congr _ (fun p a b => ?_)
    have b' : p < hi := by omega
    have h1 := eb p a b'
    have h2 := hB.ge a b'
    by_cases e : E p = L
    · have hb : B p = 1 := by omega
      rw [ind_t ⟨e, by omega⟩, ind_t e, hO p a b', if_pos hb, Int.mul_one]
    · rw [ind_f (fun h => e h.1), ind_f e]
  have l2 : Sg (fun p => ind (E p = 1 ∧ B p = L - 1 + 1) (W p * O p)) lo (hi - lo) = Sg (fun p => ind (B p = L) (O p)) lo (hi - lo) := by
    refine Sg_congr _ (fun p a b => ?_)
    have b' : p < hi := by omega
    have h1 := eb p a b'
    have h2 := hE.ge a b'
    by_cases e : B p = L
    · have he : E p = 1 := by omega
      rw [ind_t ⟨he, by omega⟩, ind_t e, hW p a b']
      unfold wy
      rw [if_pos (by omega), Int.one_mul]
    · rw [ind_f (fun h => e (by have := h.2; omega)), ind_f e]
  rw [← l1, ← c, l2]
end WMA
