/-! ===== the reference's weight ===== -/
section MWT
variable {K : KK} {d : Nat} {V : Mem} {P : Nat → Int × Int} {n R : Nat}
theorem m_weight (hI : Icore P n R V) (r p : Int) : Mi K (d + 4) mX12_weight [vR 369, vI r, vI p] V (fun z V' => FrM V V' ∧ ((plC V r p ∧ V' 369 0 = 0 ∧ z = wR P n V r.toNat p.toNat) ∨ (¬ plC V r p ∧ V' 369 0 = 1))) := by
  obtain ⟨hx, hr0, hR, hC, hlx, hl, hw⟩ := id hI
  refine sX12_weight (d := d + 2) r p ((m_isPlace (d := d + 1) (by rw [hr0]; omega) r p).use ?_)
  by_cases q : plC V r p
  · rw [if_pos q]
    refine ⟨fun c => absurd c (by decide), fun _ => ?_⟩
    obtain ⟨i, rfl⟩ : ∃ i : Nat, r = i := ⟨r.toNat, by have := q.1; omega⟩
    obtain ⟨j, rfl⟩ : ∃ j : Nat, p = j := ⟨p.toNat, by have := q.2.2.1; omega⟩
    have hi : i < R := by have := q.2.1; rw [hr0] at this; omega
    obtain ⟨m, m1, m2, m3, m4, m5, m6, m7, m8⟩ := hI.row hi
    have hj : j < m := by have := q.2.2.2; rw [tn, m2] at this; omega
    refine sX12_weight_15 _ _ _ ⟨fun _ => ?_, fun c => absurd (by rw [upm_s]; exact Int.le_refl _) c⟩
    have k0 : ∀ c, c ≠ 369 → upm V 369 0 0 c = V c := fun c hc => upm_off c hc
    have k00 : upm V 369 0 0 369 0 = 0 := upm_s _ _ _ _
    have k01 : ∀ j, j ≠ 0 → upm V 369 0 0 369 j = V 369 j := fun j hj => upm_k hj
    generalize upm V 369 0 0 = U at *
    rw [ix3 (show i < 4 by omega) (show j ≤ 20 by omega), ix2 (show i < 4 by omega), ix1 (show i < 4 by omega), tn, tn, tn, k0 381 (by omega), k0 375 (by omega)]
    refine ⟨⟨by omega, by omega⟩, ⟨by omega, by omega⟩, ⟨by omega, by omega⟩, ?_⟩
    generalize hW : upm (upm (upm (upm U 379 0 (V 381 (4 + 20 * i + j))) 379 1 (j : Int)) 379 2 (V 381 i)) 379 3 (V 375 (3 + 22 * i)) = W
    have k1 : ∀ c, c ≠ 379 → W c = U c := fun c hc => by rw [← hW, upm_off c hc, upm_off c hc, upm_off c hc, upm_off c hc]
    have f0 : W 379 0 = V 381 (4 + 20 * i + j) := by rw [← hW, upm_k (by omega), upm_k (by omega), upm_k (by omega), upm_s]
    have f1 : W 379 1 = (j : Int) := by rw [← hW, upm_k (by omega), upm_k (by omega), upm_s]
    have f2 : W 379 2 = V 381 i := by rw [← hW, upm_k (by omega), upm_s]
    have f3 : W 379 3 = V 375 (3 + 22 * i) := by rw [← hW, upm_s]
    have e5 : W 375 2 = V 375 2 := by rw [k1 375 (by omega), k0 375 (by omega)]
    rw [e5]
    have hf : ∀ V3 : Mem, (∀ c, c ≠ 380 → V3 c = W c) → FrM V V3 ∧ V3 369 0 = 0 := fun V3 h3 => ⟨⟨fun c c1 c2 => by rw [h3 c (by omega), k1 c (by omega), k0 c c2], fun j c1 _ _ _ => by rw [h3 369 (by omega), k1 369 (by omega)]; exact k01 j c1⟩, by rw [h3 369 (by omega), k1 369 (by omega)]; exact k00⟩
    have hcg : wv (fun q => W 379 q.toNat) P n = wR P n V i j := by
      unfold wR wv
      rw [vr_congr hw (fun q hq => fct_k (g := W 379) f0 f1 f2 f3 hq) n (Nat.le_refl n)]
    rcases hl with ⟨l1, l2, l3⟩ | ⟨o, l1, l2, l3, l4⟩
    · refine ⟨fun c => by omega, fun _ => ⟨_, rfl, (hf W (fun _ _ => rfl)).1, Or.inl ⟨q, (hf W (fun _ _ => rfl)).2, ?_⟩⟩⟩
      show V 381 (4 + 20 * i + j) = wR P n V i j
      unfold wR
      rw [l2, wv_plain l3]
      rfl
    · rw [l1]
      have h376 : W 376 = V 376 := by rw [k1 376 (by omega), k0 376 (by omega)]
      refine ⟨fun _ => Mi.use (m_worthAt (d := d + 1) (V := W) (P := P) l2 (fun j hj => by rw [h376]; exact l3 j hj) (by rw [h376]; exact l4) hw) (fun z V3 ⟨z1, z2⟩ => ⟨_, rfl, (hf V3 z2).1, Or.inl ⟨q, (hf V3 z2).2, ?_⟩⟩), fun c => by omega⟩
      show z = wR P n V i j
      exact z1.trans hcg
  · rw [if_neg q]
    refine ⟨fun _ => sX12_weight_15 _ _ _ ⟨fun c => absurd c (by rw [upm_s]; decide), fun _ => ⟨_, rfl, FrM.th 1, Or.inr ⟨q, upm_s _ _ _ _⟩⟩⟩, fun c => absurd rfl c⟩
end MWT
