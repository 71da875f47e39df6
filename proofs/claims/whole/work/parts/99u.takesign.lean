/-! ===== takeSign ===== -/
theorem c_of : ∀ c, c < 128 → Int32.ofInt ((c : Nat) : Int) = Int32.ofNat c := by decide +kernel
def sgI (c : Nat) : Int := (fnd sgZ (Int32.ofNat c) 8 0).toInt
theorem sgI_lt : ∀ c, c < 127 → (sgI c < 0 ↔ isSb ((c : Nat) : Int) = false) := by decide +kernel
section WPS
variable {K : KK} {d : Nat} {y : MI} {mc ms pc : Nat} {L : List (Option AV)} {S : List AV} {cl sl : Nat} {sh : List SC} {V : Mem} {Q : Option AV → List SC → Mem → Prop} {adK adV : Nat → Nat}
theorem wp_sgIx {cn : Nat} (hz : ∀ U H, kZ K U H → SZ adK adV (kB K) U H) (hy : y.1.cls = "ChainIndex$Tape") (hd1 : decode y.2.1 pc = .ok (.ldc 73, 2)) (hd2 : decode y.2.1 (pc + 2) = .ok (.iload_n 1, 1)) (hd3 : decode y.2.1 (pc + 3) = .ok (.invokevirtual 75, 3)) (hL : L[1]? = some (some (vI (cn : Int)))) (hcn : cn < 127) (hdd : 4 ≤ d) (hW : cats S ≤ 8) (hm : cl ≤ mc ∧ sl ≤ ms) (h : Wp K d y mc ms (pc + 6) L (vI (sgI cn) :: S) cl sl sh V Q) : Wp K d y mc ms pc L S cl sl sh V Q := by
  intro p e s m args below meth c H locs ls hC hR hS hLv hV
  obtain ⟨d', rfl⟩ : ∃ d', d = d' + 4 := ⟨d - 4, by omega⟩
  have hts := hC.2.2.2.2.2.1
  have hown := hC.2.2.2.2.1
  rw [hy] at hown
  have hB := hC.2.2.2.2.2.2.2.2.1
  obtain ⟨_, hO, hk⟩ := hC.2.2.2.2.2.2.2.2.2.2.2
  obtain ⟨z1, z2, z3, z4, z5⟩ := hz _ _ hk
  refine va_ldcS hC.1 hC.2.1 hown z4 hd1 ?_
  refine lv_iload_n hC.1 hC.2.1 hd2 rfl (hLv.2.2 1 _ hL).1 ?_
  have e1 : (Value.int (Int32.ofInt (cn : Int))) = Value.int (Int32.ofNat cn) := by rw [c_of cn (by omega)]
  rw [e1]
  refine mj_callV (As := [.int (Int32.ofNat cn)]) (rest := S.map (cv K)) (C := "java/lang/String") ⟨hC.1, hC.2.1, hC.2.2.2.1, hown, hts⟩ okJ0_indexOf_0f7a4 ljX9_75 imJ0_indexOf_0f7a4 seJ0_indexOf_0f7a4 rfl (j_indexOf2 (i := 0) (d := d') hz (by decide) (show cn < 128 by omega)) (by omega) hm hO hk hB hS (vk_recv z1 (by decide) hS) rfl hLv.1 (by rw [cats_cv]; exact hW) hd3 (fun locs1 hS1 => ?_)
  have e2 : (Value.int (fnd (bytZ.getD 0 []) (Int32.ofNat cn) (lenZ.getD 0 0) 0)) = cv K (vI (sgI cn)) := by
    show Value.int _ = Value.int (Int32.ofInt (sgI cn))
    unfold sgI
    rw [Int32.ofInt_toInt]
    rfl
  show W _ _ _ _ _ _ _ _ _ _ _ _ _ _ _ (F0 m (pc + 3 + 3) ls (Value.int _ :: S.map (cv K)))
  rw [e2]
  exact h p e s m args below meth c H locs1 ls hC hR hS1 hLv (okS_c (show okv (vI (sgI cn)) from r32_of _) hV)
/-- takeSign's contract -/
theorem tsg_ok (hz : ∀ U H, kZ K U H → SZ adK adV (kB K) U H) : TSg K (d + 4) := by
  intro V t L p hT hp ht
  obtain ⟨t1, t2, t3, t4, t5⟩ := hT
  obtain ⟨cn, hcn⟩ : ∃ cn : Nat, t p = (cn : Int) := ⟨(t p).toNat, by omega⟩
  have c127 : cn < 127 := by omega
  have hs := sgI_lt cn c127
  rw [hcn]
  refine Mt.of2 rfl rfl rfl ?_
  refine wp_aload_n dX9_takeSign_0 rfl rfl ?_
  refine wp_getI dX9_takeSign_1 fX9_38 rfl sh1 (by decide) ?_
  refine wp_aload_n dX9_takeSign_4 rfl rfl ?_
  refine wp_getI dX9_takeSign_5 fX9_35 rfl sh1 (by decide) ?_
  rw [t1, t2]
  refine wp_icmp_lt (tgt := 12) dX9_takeSign_8 rfl (fun _ => ?_) (fun q => by omega)
  refine wp_aload_n dX9_takeSign_12 rfl rfl ?_
  refine wp_getR (b := 2) dX9_takeSign_13 fX9_9 rfl sh1 (by decide) rfl ?_
  refine wp_aload_n dX9_takeSign_16 rfl rfl ?_
  refine wp_getI dX9_takeSign_17 fX9_38 rfl sh1 (by decide) ?_
  rw [t2]
  refine wp_cald dX9_takeSign_20 sh2 ⟨by omega, by omega⟩ ?_
  rw [tn, t5 p hp, hcn]
  refine wp_istore_n dX9_takeSign_21 rfl (by decide) rfl ?_
  refine wp_aload_n dX9_takeSign_22 rfl rfl ?_
  refine wp_dup dX9_takeSign_23 rfl ?_
  refine wp_getI dX9_takeSign_24 fX9_38 rfl sh1 (by decide) ?_
  refine wp_iconst dX9_takeSign_27 (by decide) ?_
  refine wp_iadd dX9_takeSign_28 ?_
  rw [t2, w32_s (i := p) (by omega)]
  refine wp_putI dX9_takeSign_29 fwX9_38 rfl sh1 (by decide) ?_
  refine wp_sgIx (cn := cn) hz rfl dX9_takeSign_32 dX9_takeSign_34 dX9_takeSign_35 rfl c127 (by omega) (Nat.le_of_ble_eq_true rfl) ⟨Nat.le_refl _, Nat.le_refl _⟩ ?_
  refine wp_if_lt (tgt := 54) dX9_takeSign_38 rfl (fun q => ?_) (fun q => ?_)
  · refine wp_aload_n dX9_takeSign_54 rfl rfl ?_
    refine wp_iconst dX9_takeSign_55 (by decide) ?_
    refine wp_putI dX9_takeSign_56 fwX9_54 rfl sh1 (by decide) ?_
    exact wp_return dX9_takeSign_59 rfl ⟨rfl, rfl⟩ ⟨rfl, rfl, fun c h => by rw [upm_off c h, upm_off c h], fun j h1 h2 h3 => by rw [upm_k h2, upm_k h1], by rw [upm_k (by decide), upm_s], Or.inr ⟨hs.1 q, upm_s _ _ _ _, by rw [upm_k (by decide), upm_k (by decide)]⟩⟩
  · refine wp_aload_n dX9_takeSign_41 rfl rfl ?_
    refine wp_iconst dX9_takeSign_42 (by decide) ?_
    refine wp_putI dX9_takeSign_43 fwX9_54 rfl sh1 (by decide) ?_
    refine wp_aload_n dX9_takeSign_46 rfl rfl ?_
    refine wp_iload_n dX9_takeSign_47 rfl rfl ?_
    refine wp_putI dX9_takeSign_48 fwX9_47 rfl sh1 (by decide) ?_
    refine wp_goto (tgt := 59) dX9_takeSign_51 rfl ?_
    have hb : isSb (cn : Int) = true := by
      cases hq : isSb (cn : Int) with
      | true => rfl
      | false => exact absurd (hs.2 hq) q
    exact wp_return dX9_takeSign_59 rfl ⟨rfl, rfl⟩ ⟨rfl, rfl, fun c h => by rw [upm_off c h, upm_off c h, upm_off c h], fun j h1 h2 h3 => by rw [upm_k h3, upm_k h2, upm_k h1], by rw [upm_k (by decide), upm_k (by decide), upm_s], Or.inl ⟨hb, by rw [upm_k (by decide), upm_s], upm_s _ _ _ _⟩⟩
end WPS
