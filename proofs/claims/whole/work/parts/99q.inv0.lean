/-! ===== the coupling behind the constructors ===== -/
def V0 : Mem := C11_mem 0 (fun _ _ => 0)
theorem V0_kw {j : Nat} : V0 3 j = kw32 j := by
  simp [V0, C11_mem, C4_mem, C5_mem, C9_mem, upm]
theorem V0_135 : V0 135 2 = 1 := by simp [V0, C11_mem, C4_mem, C5_mem, C9_mem, upm]
theorem V0_136 : V0 136 0 = -143 := by simp [V0, C11_mem, C4_mem, C5_mem, C9_mem, upm]
theorem V0_z {c j : Nat} (h : c ≠ 3 ∧ c ≠ 35 ∧ c ≠ 36 ∧ c ≠ 135 ∧ c ≠ 136) : V0 c j = 0 := by
  obtain ⟨h1, h2, h3, h4, h5⟩ := h
  simp [V0, C11_mem, C4_mem, C5_mem, C9_mem, upm, h1, h2, h3, h4, h5]
theorem V0_ZV : ZV V0 370 := fun b hb j => V0_z (by omega)
theorem inv0 {V' : Mem} (h : M0 V0 V') : Inv V' := by
  obtain ⟨m1, m2, m3, m4, m5, m6, m7, m8, m9, m10, m11, m12, m13⟩ := h
  have z : ∀ c j, c < 369 → c ≠ 3 → c ≠ 35 → c ≠ 36 → c ≠ 135 → c ≠ 136 → V' c j = 0 := fun c j p1 p2 p3 p4 p5 p6 => by rw [m1 c p1]; exact V0_z ⟨p2, p3, p4, p5, p6⟩
  refine inv_told (t := fun _ => 0) (L := 0) (R := 0) (B := 0) (w := 0) (C := [(2, 0)]) (rI := fun _ => 0) (bI := fun _ => 0) ⟨z 1 2 (by decide) (by decide) (by decide) (by decide) (by decide) (by decide), m6⟩ (fun i hi => ⟨by rw [m1 3 (by decide)]; exact V0_kw, m2 i hi⟩) ⟨⟨fun r hr => by omega, fun r s hr => by omega⟩, ⟨fun r hr => by omega, fun r s hr => by omega⟩, ⟨Or.inr (Or.inl ⟨rfl, by decide, by decide⟩), 0, rfl, Or.inl ⟨by decide, rfl, by decide⟩⟩, by decide, by decide⟩ ⟨⟨m3, m4, by decide, by decide, fun r hr => by omega, fun r hr => by omega⟩, fun r hr => by omega, fun r hr => by omega, Or.inl ⟨rfl, m5, rfl⟩⟩ (fun r hr => by omega) (fun r hr => by omega) ⟨z 73 5 (by decide) (by decide) (by decide) (by decide) (by decide) (by decide), z 73 6 (by decide) (by decide) (by decide) (by decide) (by decide) (by decide), z 73 7 (by decide) (by decide) (by decide) (by decide) (by decide) (by decide)⟩ (fun r hr => by omega) (fun r hr => by omega) ⟨z 43 5 (by decide) (by decide) (by decide) (by decide) (by decide) (by decide), z 43 6 (by decide) (by decide) (by decide) (by decide) (by decide) (by decide), z 43 7 (by decide) (by decide) (by decide) (by decide) (by decide) (by decide)⟩ (fun r hr => by omega) (fun r hr => by omega) ⟨by rw [m1 135 (by decide)]; exact V0_135, fun j hj => ?_⟩ ⟨z 138 3 (by decide) (by decide) (by decide) (by decide) (by decide) (by decide), z 142 3 (by decide) (by decide) (by decide) (by decide) (by decide) (by decide), fun m hm => z 134 m (by decide) (by decide) (by decide) (by decide) (by decide) (by decide)⟩ (z 0 17 (by decide) (by decide) (by decide) (by decide) (by decide) (by decide)) m8 m7 m9 m10 m11 m12
  have hj' : j < 1 := hj
  have e : j = 0 := by omega
  subst e
  rw [m1 136 (by decide), V0_136]
  decide
