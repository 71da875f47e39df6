/-! ===== the law's beginning: the class, the reference, the row for weight's answers ===== -/
theorem V0_Z9 : ZV V0 369 := fun b hb j => V0_z (by omega)
theorem SH2_len : SH2.length = 401 := by decide +kernel
section LWP
variable {K : KK} {G : EG} {nm : String} {adK adV : Nat → Nat}
theorem lw_pre2 (hE : kE K = true) (hk : ∀ V, Inv V → WgE K 2048 (mL nm) 601024 7293034 23 [some vS, some (vR 0), some (vR 369), some (vR 401), some (vI ((7 * 0 : Nat) : Int)), none, none] [] 402 19849 SH V G) : WgE K 2048 (mL nm) 601024 7293034 8 [some vS, some (vR 0), none, none, none, none, none] [] 369 7034 (C11 0) V0 G := by
  have e0 := C11_len 0
  refine wge_new dL_law_8 nw_L_16 hE (fun k _ => by rw [e0]; exact V0_Z9 369 (Nat.le_refl _) k) (by decide) ?_
  rw [e0]
  refine wge_dup dL_law_11 rfl ?_
  refine wge_callI (d' := 100 + 9) (mc' := 31) (ms' := 12772) (S := [vR 369]) (as := []) dL_law_12 lL_18 (ic_C12 (d := 100) hE V0_ZV (fun j => V0_Z9 369 (Nat.le_refl _) j)) (by decide) rfl rfl (Nat.le_of_ble_eq_true rfl) (by decide) ?_
  rintro r sh' V' ⟨rfl, rfl, hM⟩
  show WgE _ _ _ _ _ 15 _ [vR 369] _ _ _ _ _
  refine wge_astore_n dL_law_15 rfl (show 2 < 7 by decide) rfl ?_
  refine wge_iconst dL_law_16 (by decide) ?_
  refine wge_newa (c := 15) (Or.inr (Or.inr (Or.inl rfl))) dL_law_17 nwa_long hE (by decide) (fun k _ => by rw [SH2_len]; exact hM.2.2.2.2.2.2.2.2.2.2.2.2 401 (Nat.le_refl _) k) (by decide) ?_
  rw [SH2_len, show SH2 ++ [(15, (1 : Int).toNat, [])] = SH from SH_of2]
  refine wge_astore_n dL_law_19 rfl (show 3 < 7 by decide) rfl ?_
  refine wge_iconst dL_law_20 (by decide) ?_
  refine wge_istore dL_law_21 (show 4 < 7 by decide) rfl ?_
  exact hk V' (inv0 hM)
theorem lw_pre (hE : kE K = true) (hZ : ∀ U H, kZ K U H → OKZ U) (hS : ∀ U H, kZ K U H → SZ adK adV (kB K) U H) (hk : ∀ V, Inv V → WgE K 2048 (mL nm) 601024 7293034 23 [some vS, some (vR 0), some (vR 369), some (vR 401), some (vI ((7 * 0 : Nat) : Int)), none, none] [] 402 19849 SH V G) : WgE K 2048 (mL nm) 601024 7293034 0 [some vS, none, none, none, none, none, none] [] 0 0 [] (fun _ _ => 0) G := by
  refine wge_new dL_law_0 nw_L_8 hE (fun _ _ => rfl) (by decide) ?_
  refine wge_dup dL_law_3 rfl ?_
  refine wge_callI (d' := 100 + 8) (mc' := 368) (ms' := 7016) (S := [vR 0]) (as := []) dL_law_4 lL_15 (ic_C11 hE hZ (fun d => ic_C9 hE hS d) 100 [] 0 (fun _ _ => 0) rfl (fun _ _ _ => rfl)) (by decide) rfl rfl (Nat.le_of_ble_eq_true rfl) (by decide) ?_
  rintro r sh' V' ⟨rfl, rfl, rfl⟩
  show WgE _ _ _ _ _ 7 _ [vR 0] _ _ (C11 0) V0 _
  refine wge_astore_n dL_law_7 rfl (show 1 < 7 by decide) rfl ?_
  exact lw_pre2 hE hk
end LWP
/-! the heap's end is the world's end no longer -/
theorem lw_sw {l : Launch} {C : Nat → ClassId} {I : Nat → Nat → Nat} {Y : Nat → ClassId} {B S N : Nat} {X : Nat → Int32} {Z : State → Heap → Prop} {d : Nat} {y : MI} {mc ms pc : Nat} {L : List (Option AV)} {T : List AV} {cl sl : Nat} {sh : List SC} {V : Mem} {Q : Option AV → List SC → Mem → Prop} (h : Wp (l, C, I, Y, B, S, N, X, false, Z) d y mc ms pc L T cl sl sh V Q) : WgE (l, C, I, Y, B, S, N, X, true, Z) d y mc ms pc L T cl sl sh V (fun _ _ s _ args below _ _ t => MQ below (QcO (l, C, I, Y, B, S, N, X, false, Z) Q) args s mc ms (kA (l, C, I, Y, B, S, N, X, false, Z)) t) := by
  intro p e s m args below meth c H locs ls hC hR hS hL hV
  exact h p e s m args below meth c H locs ls hC ⟨hR.1, hR.2.1, fun q => by cases q⟩ hS hL hV
