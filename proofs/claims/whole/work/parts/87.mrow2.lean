/-! ===== the reference's rows: numbers ===== -/
/-- the reference behind a row: a fault, or the row is drafted and it stands behind its numbers -/
def MRp (R B : Nat) (rI bI : Nat → Nat) (t : Nat → Int) (L i : Nat) (V V' : Mem) : Prop := MFr V V' ∧ ((0 < V' 369 8 ∧ rwF R B rI bI t L i = V' 369 8 ∧ ∃ j : Nat, V' 369 7 = (j : Int) ∧ j ≤ 1001) ∨ (V' 369 8 = 0 ∧ V' 369 7 = (rwE t L i : Nat) ∧ 0 < rwQ t L i ∧ rwF R B rI bI t L i = (if cT t L (rwE t L i) = 59 then 0 else ftT t L (rwE t L i) 1) ∧ V' 375 140 = ((R + 1 : Nat) : Int) ∧ V' 375 (143 + 22 * R) = cT t L (i + 2) - 136 ∧ V' 375 (144 + 22 * R) = (rwQ t L i : Nat) ∧ (∀ p, p < rwQ t L i → V' 375 (145 + 22 * R + p) = nT t L (i + 3 + p)) ∧ (∀ j, 141 ≤ j → (j < 143 + 22 * R ∨ 165 + 22 * R ≤ j) → V' 375 j = V 375 j) ∧ V' 377 (8 + R) = wT 37 t L (i + 1) ∧ (∀ j, j ≠ 8 + R → V' 377 j = V 377 j)))
section MRW
variable {K : KK} {d : Nat} {V : Mem} {t : Nat → Int} {L N i R B : Nat} {rI bI : Nat → Nat}
/-- behind a fault -/
theorem m_row_bad {W : Mem} {j : Nat} (hF : MFr V W) (h8 : 0 < W 369 8) (h7 : W 369 7 = (j : Int)) (hj : j ≤ 1001) (hf : rwF R B rI bI t L i = W 369 8) (x2 x3 x4 : Int) : Wf K (d + 4) mX12_readRow 93 [some (vR 369), none, some (vI x2), some (vI x3), some (vI x4), none] [] W (fun r V' => r = none ∧ MRp R B rI bI t L i V V') := by
  have c : ¬ W 369 8 = 0 := by omega
  exact sX12_readRow_93 _ _ _ ⟨fun _ => sX12_readRow_113 _ _ _ ⟨fun _ => ⟨rfl, hF, Or.inl ⟨h8, hf, j, h7, hj⟩⟩, fun q => absurd q c⟩, fun q => absurd q c⟩
theorem m_row_bad32 {W : Mem} {j : Nat} (hF : MFr V W) (h8 : 0 < W 369 8) (h7 : W 369 7 = (j : Int)) (hj : j ≤ 1001) (hf : rwF R B rI bI t L i = W 369 8) (x2 x3 x4 : Int) : Wf K (d + 4) mX12_readRow 32 [some (vR 369), none, some (vI x2), some (vI x3), some (vI x4), none] [] W (fun r V' => r = none ∧ MRp R B rI bI t L i V V') := by
  have c : ¬ W 369 8 = 0 := by omega
  exact sX12_readRow_32 _ _ _ ((m_takeNumber0 (d := d + 2) h8).use ⟨fun _ => sX12_readRow_70 _ _ _ _ ⟨fun _ => m_row_bad hF h8 h7 hj hf _ _ _, fun q => absurd q c⟩, fun q => absurd q c⟩)
end MRW
