/-! ===== the reference reads a work ===== -/
theorem ix77a {n : Nat} (h : n ≤ 30) : w32 (95 + w32 (3 * (n : Int))) = ((95 + 3 * n : Nat) : Int) := by rw [w32_id (x := 3 * (n : Int)) (by omega) (by omega), w32_id (by omega) (by omega)]; omega
theorem ix77b {x j : Nat} (h : x + j ≤ 1000) : w32 ((x : Int) + (j : Int)) = ((x + j : Nat) : Int) := by rw [w32_id (by omega) (by omega)]; omega
theorem tk_nx {t : Nat → Int} {L N i : Nat} (hP : psT t L N = L) (hi : i ≤ N) (hg : gT t L i ≠ 0) : i + 1 ≤ N := by
  by_cases e : i = N
  · refine absurd ?_ hg
    unfold gT
    rw [e, hP]
    exact tk0.2 (Nat.le_refl _)
  · omega
theorem c_g {t : Nat → Int} {L i : Nat} (h : cT t L i ≠ 0) : gT t L i ≠ 0 := by
  intro q
  rcases tk_c t L (psT t L i) with ⟨h1, _⟩ | ⟨h1, _⟩ | ⟨h1, _⟩
  · exact h h1
  · have q' : tkG t L (psT t L i) = 0 := q
    omega
  · have q' : tkG t L (psT t L i) = 0 := q
    omega
theorem nm_g {t : Nat → Int} {L i : Nat} (h : nmT t L i = true) : gT t L i ≠ 0 := by
  have := (of_decide_eq_true h).1
  omega
/-- the reference's drafts of lines -/
def MW (V : Mem) (nm : Nat → Int) (R BT : Nat) (t : Nat → Int) (L n : Nat) (l : Nat → Nat) : Prop := ∀ k, k < n → V 378 (95 + 3 * k) = cT t L (l k) - 131 ∧ V 378 (96 + 3 * k) = lnA nm R BT t L (l k) ∧ V 378 (97 + 3 * k) = lnB nm BT t L (l k)
/-- what the reference's reading leaves -/
def MWp (nm : Nat → Int) (R BT : Nat) (t : Nat → Int) (L : Nat) (V : Mem) (res : Int × Nat × (Nat → Nat)) (z : Int) (V' : Mem) : Prop := (∀ c, c ≠ 369 → c ≠ 378 → V' c = V c) ∧ (∀ j, j ≠ 7 → j ≠ 8 → V' 369 j = V 369 j) ∧ z = res.1 ∧ (z ≠ 0 → ∀ j, j < 95 → V' 378 j = V 378 j) ∧ (z = 0 → V' 378 0 = (res.2.1 : Nat) ∧ ∀ k, k < res.2.1 → V' 378 (1 + 3 * k) = cT t L (res.2.2 k) - 131 ∧ V' 378 (2 + 3 * k) = lnA nm R BT t L (res.2.2 k) ∧ V' 378 (3 + 3 * k) = lnB nm BT t L (res.2.2 k))
section MWK
variable {K : KK} {d : Nat} {V : Mem} {t : Nat → Int} {L N i n R BT : Nat} {nm : Nat → Int}
/-- behind a fault -/
theorem m_work_bad {j : Nat} {res : Int × Nat × (Nat → Nat)} (hf : V 369 8 = res.1) (hp : 0 < res.1) (h7 : V 369 7 = (j : Nat)) (hj : j ≤ 1001) {U : Mem} (g1 : ∀ c, c ≠ 369 → c ≠ 378 → V c = U c) (g2 : ∀ j, j ≠ 7 → j ≠ 8 → V 369 j = U 369 j) (g3 : ∀ j, j < 95 → V 378 j = U 378 j) (x : Int) : Wf K (d + 5) mX12_work 185 [some (vR 369), some (vI x), none, none] [] V (fun r V' => ∃ z, r = some (vI z) ∧ MWp nm R BT t L U res z V') := by
  have c0 : V 369 8 ≠ 0 := by omega
  refine sX12_work_185 _ (Mv.use (m_takeSign0 (d := d + 3) c0) ?_)
  rintro V' rfl
  refine sX12_work_11 _ ⟨fun _ => sX12_work_194 _ ⟨fun q => by omega, fun _ => ⟨_, rfl, g1, g2, hf, fun _ => g3, fun q => absurd q (by omega)⟩⟩, fun q => absurd q c0⟩
/-- a fault at the line's third part -/
theorem m_work_bad3 {j : Nat} {res : Int × Nat × (Nat → Nat)} (hf : V 369 8 = res.1) (hp : 0 < res.1) (h7 : V 369 7 = (j : Nat)) (hj : j ≤ 1001) {U : Mem} (g1 : ∀ c, c ≠ 369 → c ≠ 378 → V c = U c) (g2 : ∀ j, j ≠ 7 → j ≠ 8 → V 369 j = U 369 j) (g3 : ∀ j, j < 95 → V 378 j = U 378 j) (hn : n ≤ 30) (x z : Int) (y : Nat) (hy : 95 ≤ y ∧ y < 190) : Wf K (d + 5) mX12_work 181 [some (vR 369), some (vI x), none, none] [vI z, vI (y : Int), vR 378] V (fun r V' => ∃ z, r = some (vI z) ∧ MWp nm R BT t L U res z V') := by
  refine sX12_work_181 _ _ _ ⟨⟨by omega, by omega⟩, ?_⟩
  rw [tn]
  refine m_work_bad (j := j) (by rw [upm_off 369 (by decide)]; exact hf) hp (by rw [upm_off 369 (by decide)]; exact h7) hj (fun c p1 p2 => by rw [upm_off c p2]; exact g1 c p1 p2) (fun j p1 p2 => by rw [upm_off 369 (by decide)]; exact g2 j p1 p2) (fun j p => by rw [upm_k (by omega)]; exact g3 j p) _
theorem m_work_bad2 {j : Nat} {res : Int × Nat × (Nat → Nat)} (hf : V 369 8 = res.1) (hp : 0 < res.1) (h7 : V 369 7 = (j : Nat)) (hj : j ≤ 1001) {U : Mem} (g1 : ∀ c, c ≠ 369 → c ≠ 378 → V c = U c) (g2 : ∀ j, j ≠ 7 → j ≠ 8 → V 369 j = U 369 j) (g3 : ∀ j, j < 95 → V 378 j = U 378 j) (hn : n < 30) (x z s : Int) : Wf K (d + 5) mX12_work 124 [some (vR 369), some (vI x), some (vI z), some (vI ((95 + 3 * n : Nat) : Int))] [vI s, vI ((96 + 3 * n : Nat) : Int), vR 378] V (fun r V' => ∃ z, r = some (vI z) ∧ MWp nm R BT t L U res z V') := by
  refine sX12_work_124 _ _ _ _ _ ⟨⟨by omega, by omega⟩, ?_⟩
  have e2 : ((95 + 3 * n : Nat) : Int) + 2 = ((95 + 3 * n : Nat) : Int) + ((2 : Nat) : Int) := rfl
  rw [tn, e2, ix77b (show 95 + 3 * n + 2 ≤ 1000 by omega)]
  clear e2
  have k1 : ∀ c, c ≠ 369 → c ≠ 378 → (upm V 378 (96 + 3 * n) s) c = U c := fun c p1 p2 => by rw [upm_off c p2]; exact g1 c p1 p2
  have k2 : ∀ j, j ≠ 7 → j ≠ 8 → (upm V 378 (96 + 3 * n) s) 369 j = U 369 j := fun j p1 p2 => by rw [upm_off 369 (by decide)]; exact g2 j p1 p2
  have k3 : ∀ j, j < 95 → (upm V 378 (96 + 3 * n) s) 378 j = U 378 j := fun j p => by rw [upm_k (by omega)]; exact g3 j p
  have k7 : (upm V 378 (96 + 3 * n) s) 369 7 = (j : Nat) := by rw [upm_off 369 (by decide)]; exact h7
  have k8 : (upm V 378 (96 + 3 * n) s) 369 8 = res.1 := by rw [upm_off 369 (by decide)]; exact hf
  generalize upm V 378 (96 + 3 * n) s = W at *
  have fin : ∀ v : Int, Wf K (d + 5) mX12_work 181 [some (vR 369), some (vI x), none, none] [vI v, vI ((95 + 3 * n + 2 : Nat) : Int), vR 378] W (fun r V' => ∃ z, r = some (vI z) ∧ MWp nm R BT t L U res z V') := fun v => m_work_bad3 (n := n) k8 hp k7 hj k1 k2 k3 (by omega) x v _ (by omega)
  refine ⟨fun _ => ⟨fun _ => ⟨fun _ => fin 0, fun _ => (m_takeTold0 (d := d + 3) (by omega) k7 hj).use (fin 0)⟩, fun _ => (m_takeNumber0 (d := d + 3) (by omega)).use (fin 0)⟩, fun _ => (m_takeNumber0 (d := d + 3) (by omega)).use (fin 0)⟩
end MWK
