/-! ===== distinct digits ===== -/
/-- a value is left out, those above come down -/
def skp (w : Int) (x : Int) : Int := if w < x then x - 1 else x
theorem skp_inj {w x y : Int} (hx : x ≠ w) (hy : y ≠ w) (h : skp w x = skp w y) : x = y := by
  unfold skp at h
  by_cases c : w < x
  · rw [if_pos c] at h
    by_cases c2 : w < y
    · rw [if_pos c2] at h; omega
    · rw [if_neg c2] at h; omega
  · rw [if_neg c] at h
    by_cases c2 : w < y
    · rw [if_pos c2] at h; omega
    · rw [if_neg c2] at h; omega
theorem skp_r {w x n : Int} (hw : 0 ≤ w) (hn : w ≤ n) (hx : 0 ≤ x ∧ x < n + 1) (hne : x ≠ w) : 0 ≤ skp w x ∧ skp w x < n := by
  unfold skp
  by_cases c : w < x
  · rw [if_pos c]; omega
  · rw [if_neg c]; omega
theorem no_inj : ∀ (n : Nat) (e : Nat → Int), (∀ s, s < n + 1 → 0 ≤ e s ∧ e s < (n : Int)) → (∀ s t, s < n + 1 → t < n + 1 → e s = e t → s = t) → False
  | 0, e, h, _ => by
    have := h 0 (by omega)
    omega
  | n + 1, e, h, hi => by
    have hw := h (n + 1) (by omega)
    have ne : ∀ s, s < n + 1 → e s ≠ e (n + 1) := fun s hs q => by
      have := hi s (n + 1) (by omega) (by omega) q
      omega
    refine no_inj n (fun s => skp (e (n + 1)) (e s)) (fun s hs => ?_) (fun s t hs ht q => ?_)
    · have h1 := h s (by omega)
      exact skp_r hw.1 (by omega) ⟨h1.1, by omega⟩ (ne s hs)
    · exact hi s t (by omega) (by omega) (skp_inj (ne s hs) (ne t ht) q)
theorem php {n : Nat} {e : Nat → Int} (h : ∀ s, s < n → 0 ≤ e s ∧ e s < (n : Int)) (hi : ∀ s t, s < n → t < n → e s = e t → s = t) {v : Nat} (hv : v < n) : ∃ s, s < n ∧ e s = (v : Int) := by
  by_cases c : ∃ s, s < n ∧ e s = (v : Int)
  · exact c
  · have ne : ∀ s, s < n → e s ≠ (v : Int) := fun s hs q => c ⟨s, hs, q⟩
    obtain ⟨m, hm⟩ : ∃ m, n = m + 1 := ⟨n - 1, by omega⟩
    subst hm
    refine absurd (no_inj m (fun s => skp (v : Int) (e s)) (fun s hs => ?_) (fun s t hs ht q => ?_)) id
    · have h1 := h s hs
      exact skp_r (by omega) (by omega) ⟨h1.1, by omega⟩ (ne s hs)
    · exact hi s t hs ht (skp_inj (ne s hs) (ne t ht) q)
theorem perm_of {n : Nat} {e : Nat → Int} (h : ∀ s, s < n → 0 ≤ e s ∧ e s < (n : Int)) (hi : ∀ s t, s < n → t < n → e s = e t → s = t) : PermOK e n := ⟨h, hi, fun v hv => php h hi hv⟩
/-! a braid's strands, from the token b on -/
def bdG (t : Nat → Int) (L b j : Nat) : Prop := gT t L (b + j) = 3 ∧ nT t L (b + j) ≤ 9 ∧ ∀ k, k < j → nT t L (b + k) ≠ nT t L (b + j)
/-- ten strands are all there are -/
theorem bd_ten {t : Nat → Int} {L b : Nat} (h : ∀ j, j < 10 → bdG t L b j) : ¬ bdG t L b 10 := by
  intro h10
  have g : ∀ s, s < 10 → 0 ≤ nT t L (b + s) ∧ nT t L (b + s) < ((10 : Nat) : Int) := fun s hs => by
    have h1 := h s hs
    have h2 := (tk_n h1.1).1
    have h3 : 0 ≤ nT t L (b + s) := h2
    have h4 := h1.2.1
    omega
  have i : ∀ s u, s < 10 → u < 10 → nT t L (b + s) = nT t L (b + u) → s = u := fun s u hs hu q => by
    rcases Nat.lt_trichotomy s u with x | x | x
    · exact absurd q ((h u hu).2.2 s x)
    · exact x
    · exact absurd q.symm ((h s hs).2.2 u x)
  have h0 : 0 ≤ nT t L (b + 10) := (tk_n h10.1).1
  have h9 := h10.2.1
  obtain ⟨v, hv⟩ : ∃ v : Nat, nT t L (b + 10) = (v : Int) := ⟨(nT t L (b + 10)).toNat, by omega⟩
  obtain ⟨s, s1, s2⟩ := php (e := fun s => nT t L (b + s)) g i (v := v) (by omega)
  exact h10.2.2 s s1 (by rw [hv]; exact s2)
