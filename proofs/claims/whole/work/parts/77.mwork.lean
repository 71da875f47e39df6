/-! ===== the reference reads a work ===== -/
theorem ix77a {n : Nat} (h : n ≤ 30) : w32 (95 + w32 (3 * (n : Int))) = ((95 + 3 * n : Nat) : Int) := by rw [w32_id (x := 3 * (n : Int)) (by omega) (by omega), w32_id (by omega) (by omega)]; omega
theorem ix77b {x j : Nat} (h : x + j ≤ 1000) : w32 ((x : Int) + (j : Int)) = ((x + j : Nat) : Int) := by rw [w32_id (by omega) (by omega)]; omega
theorem tk_nx {t : Nat → Int} {L N i : Nat} (hP : psT t L N = L) (hi : i ≤ N) (hg : gT t L i ≠ 0) : i + 1 ≤ N := by
  by_cases e : i = N
  · refine absurd ?_ hg
    unfold gT
    rw [e, hP]
    exact tk0.2 (Nat.le_refl _)
  · omega
theorem c_g {t : Nat → Int} {L i : Nat} (h : cT t L i ≠ 0) : gT t L i ≠ 0 := by
  intro q
  rcases tk_c t L (psT t L i) with ⟨h1, _⟩ | ⟨h1, _⟩ | ⟨h1, _⟩
  · exact h h1
  · have q' : tkG t L (psT t L i) = 0 := q
    omega
  · have q' : tkG t L (psT t L i) = 0 := q
    omega
theorem nm_g {t : Nat → Int} {L i : Nat} (h : nmT t L i = true) : gT t L i ≠ 0 := by
  have := (of_decide_eq_true h).1
  omega
/-- the reference's drafts of lines -/
def MW (V : Mem) (nm : Nat → Int) (R BT : Nat) (t : Nat → Int) (L n : Nat) (l : Nat → Nat) : Prop := ∀ k, k < n → V 378 (95 + 3 * k) = cT t L (l k) - 131 ∧ V 378 (96 + 3 * k) = lnA nm R BT t L (l k) ∧ V 378 (97 + 3 * k) = lnB nm BT t L (l k)
/-- what the reference's reading leaves -/
def MWp (nm : Nat → Int) (R BT : Nat) (t : Nat → Int) (L : Nat) (V : Mem) (res : Int × Nat × (Nat → Nat)) (z : Int) (V' : Mem) : Prop := (∀ c, c ≠ 369 → c ≠ 378 → V' c = V c) ∧ (∀ j, j ≠ 7 → j ≠ 8 → V' 369 j = V 369 j) ∧ z = res.1 ∧ (z ≠ 0 → ∀ j, j < 95 → V' 378 j = V 378 j) ∧ (z = 0 → V' 378 0 = (res.2.1 : Nat) ∧ ∀ k, k < res.2.1 → V' 378 (1 + 3 * k) = cT t L (res.2.2 k) - 131 ∧ V' 378 (2 + 3 * k) = lnA nm R BT t L (res.2.2 k) ∧ V' 378 (3 + 3 * k) = lnB nm BT t L (res.2.2 k))
section MWK
variable {K : KK} {d : Nat} {V : Mem} {t : Nat → Int} {L N i n R BT : Nat} {nm : Nat → Int}
/-- behind a fault -/
theorem m_work_bad {j : Nat} {res : Int × Nat × (Nat → Nat)} (hf : V 369 8 = res.1) (hp : 0 < res.1) (h7 : V 369 7 = (j : Nat)) (hj : j ≤ 1001) {U : Mem} (g1 : ∀ c, c ≠ 369 → c ≠ 378 → V c = U c) (g2 : ∀ j, j ≠ 7 → j ≠ 8 → V 369 j = U 369 j) (g3 : ∀ j, j < 95 → V 378 j = U 378 j) (x : Int) : Wf K (d + 5) mX12_work 185 [some (vR 369), some (vI x), none, none] [] V (fun r V' => ∃ z, r = some (vI z) ∧ MWp nm R BT t L U res z V') := by
  have c0 : V 369 8 ≠ 0 := by omega
  refine sX12_work_185 _ ((m_takeSign0 (d := d + 3) c0).use' ?_)
  sorry
end MWK
