/-! ===== the reference's constructor ===== -/
/-- behind it -/
def M0 (V V' : Mem) : Prop := (∀ c, c < 369 → V' c = V c) ∧ (∀ k, k < 19 → V' 374 k = kw37 k) ∧ V' 375 0 = 0 ∧ V' 375 1 = 0 ∧ V' 375 2 = -1 ∧ V' 369 2 = 0 ∧ V' 369 18 = 0 ∧ V' 369 19 = 0 ∧ V' 378 0 = 0 ∧ V' 381 181 = 0 ∧ StI (V' 375) 0 0 (V' 381) ∧ (∀ m, m < 4 → V' 382 m = 0) ∧ ZV V' 401
theorem C12_kw {V : Mem} : ∀ k, k < 19 → C12_mem 369 V 374 k = kw37 k := by
  intro k hk
  have h : k = 0 ∨ k = 1 ∨ k = 2 ∨ k = 3 ∨ k = 4 ∨ k = 5 ∨ k = 6 ∨ k = 7 ∨ k = 8 ∨ k = 9 ∨ k = 10 ∨ k = 11 ∨ k = 12 ∨ k = 13 ∨ k = 14 ∨ k = 15 ∨ k = 16 ∨ k = 17 ∨ k = 18 := by omega
  rcases h with rfl | rfl | rfl | rfl | rfl | rfl | rfl | rfl | rfl | rfl | rfl | rfl | rfl | rfl | rfl | rfl | rfl | rfl | rfl <;> simp [C12_mem, upm, kw37]
theorem C12_off {V : Mem} {c : Nat} (h : c ≠ 374) : C12_mem 369 V c = V c := by
  unfold C12_mem
  simp only [upm_off c (show c ≠ 369 + 5 from h)]
section I12
variable {K : KK} {d : Nat} {V : Mem}
theorem ic_C12 (hE : kE K = true) (hz : ZV V 370) (h369 : ∀ j, V 369 j = 0) : Mt K (d + 9) mX12_init 31 12772 [vR 369] (C11 0 ++ [(12, 42, List.replicate 42 none)]) V (fun r sh' V' => r = none ∧ sh' = SH2 ∧ M0 V V') := by
  refine in_C12 hE (C11_len 0) hz ?_
  have hc : ∀ c, c ≠ 374 → C12_mem 369 V c = V c := fun c h => C12_off h
  have hk := C12_kw (V := V)
  have hzz : ZV (C12_mem 369 V) 375 := z_C12 (hz.mono (by omega))
  generalize C12_mem 369 V = U at *
  refine wp_aload_n dX12_init_387 rfl rfl ?_
  refine wp_iconst dX12_init_388 (by decide) ?_
  refine wp_callV (S := []) (as := [vI 0]) dX12_init_389 lX12_154 (g_stands (K := K) (d := d) (V := U)) (by omega) sg369 rfl rfl (Nat.le_of_ble_eq_true rfl) ⟨Nat.le_refl _, Nat.le_refl _⟩ ?_
  rintro r sh' A ⟨rfl, rfl, a1, a2, a3⟩
  refine wp_aload_n dX12_init_392 rfl rfl ?_
  refine wp_callV (S := []) (as := []) dX12_init_393 lX12_158 (g_begins (K := K) (d := d) (V := A) (R := 0) (BT := 0) (a3 0 (by omega) (by omega)) (by omega) (a3 1 (by omega) (by omega)) (by omega) (fun r hr => by omega)) (by omega) sg369 rfl rfl (Nat.le_of_ble_eq_true rfl) ⟨Nat.le_refl _, Nat.le_refl _⟩ ?_
  rintro r sh' B ⟨rfl, rfl, b1, b2, b3, b4, b5, b6, b7, b8⟩
  have b375 : B 375 = A 375 := b1 375 (by decide) (by decide) (by decide) (by decide)
  refine wp_return dX12_init_396 rfl (by decide) ⟨rfl, rfl, fun c hc' => ?_, fun k hk' => ?_, ?_, ?_, ?_, ?_, b4, b3, b5, b6, ?_, b8, fun b hb j => ?_⟩
  · rw [b1 c (by omega) (by omega) (by omega) (by omega), a1 c (by omega), hc c (by omega)]
  · rw [b1 374 (by decide) (by decide) (by decide) (by decide), a1 374 (by decide)]; exact hk k hk'
  · rw [b375]; exact a3 0 (by omega) (by omega)
  · rw [b375]; exact a3 1 (by omega) (by omega)
  · rw [b375]; exact a2
  · rw [b2 2 (by decide) (by decide), a1 369 (by decide), hc 369 (by decide)]; exact h369 2
  · rw [b375]; exact b7
  · rw [b1 b (by omega) (by omega) (by omega) (by omega), a1 b (by omega)]; exact hzz b (by omega) j
end I12
