/-! ===== segments X5, by program ===== -/
set_option maxHeartbeats 4000000 in
set_option maxRecDepth 10000 in
theorem sX5_readIndex {K : KK} {d : Nat} {V : Mem} {Q : Option AV → Mem → Prop}  (h : Mf K d mX4_bePlain [vR 35] (upm (upm (upm V 5 5 0) 5 6 0) 5 7 0) (fun r V1 => r = none ∧ Wf K (d + 1) mX5_readIndex 31 [some (vR 4), some (vR 1), some (vI 0)] [] (upm (upm (upm V1 4 7 0) 4 8 0) 1 3 0) Q)) : Mf K (d + 1) mX5_readIndex [vR 4, vR 1] V Q := by
  refine Mt.of2 (L := [some (vR 4), some (vR 1), none]) pnX5 rfl rfl ?_
  refine wp_aload_n dX5_readIndex_0 rfl rfl ?_
  refine wp_getR (b := 5) dX5_readIndex_1 fX5_12 rfl sh4 (by decide) rfl ?_
  refine wp_inlV (d' := d) (S := []) (as := []) dX5_readIndex_4 lX5_38 (by omega) sh5 rfl rfl (Nat.le_of_ble_eq_true rfl) ⟨Nat.le_refl _, Nat.le_refl _⟩ (Mt.of2 (L := [some (vR 5)]) pnX7 rfl rfl ?_)
  refine wp_aload_n dX7_clear_0 rfl rfl ?_
  refine wp_iconst dX7_clear_1 (by decide) ?_
  refine wp_putI dX7_clear_2 fwX7_36 rfl sh5 (by decide) ?_
  refine wp_aload_n dX7_clear_5 rfl rfl ?_
  refine wp_iconst dX7_clear_6 (by decide) ?_
  refine wp_putI dX7_clear_7 fwX7_40 rfl sh5 (by decide) ?_
  refine wp_aload_n dX7_clear_10 rfl rfl ?_
  refine wp_iconst dX7_clear_11 (by decide) ?_
  refine wp_putI dX7_clear_12 fwX7_43 rfl sh5 (by decide) ?_
  refine wp_return dX7_clear_15 rfl ⟨rfl, rfl⟩ ?_
  show Wp _ _ _ _ _ 7 _ [] _ _ _ _ _
  refine wp_aload_n dX5_readIndex_7 rfl rfl ?_
  refine wp_getR (b := 35) dX5_readIndex_8 fX5_21 rfl sh4 (by decide) rfl ?_
  refine wp_callV (S := []) (as := []) dX5_readIndex_11 lX5_41 (h) (by omega) sh35 rfl rfl (Nat.le_of_ble_eq_true rfl) ⟨Nat.le_refl _, Nat.le_refl _⟩ ?_
  rintro _ _ V1 ⟨rfl, rfl, q1⟩
  show Wp _ _ _ _ _ 14 _ [] _ _ _ _ _
  refine wp_aload_n dX5_readIndex_14 rfl rfl ?_
  refine wp_iconst dX5_readIndex_15 (by decide) ?_
  refine wp_putZ dX5_readIndex_16 fwX5_44 rfl sh4 (by decide) (by decide) ?_
  refine wp_aload_n dX5_readIndex_19 rfl rfl ?_
  refine wp_iconst dX5_readIndex_20 (by decide) ?_
  refine wp_putI dX5_readIndex_21 fwX5_48 rfl sh4 (by decide) ?_
  refine wp_aload_n dX5_readIndex_24 rfl rfl ?_
  refine wp_iconst dX5_readIndex_25 (by decide) ?_
  refine wp_putI dX5_readIndex_26 fwX5_52 rfl sh1 (by decide) ?_
  refine wp_iconst dX5_readIndex_29 (by decide) ?_
  refine wp_istore_n dX5_readIndex_30 rfl (by decide) rfl ?_
  exact q1
set_option maxHeartbeats 4000000 in
set_option maxRecDepth 10000 in
theorem sX5_readIndex_31 {K : KK} {d : Nat} {V : Mem} {Q : Option AV → Mem → Prop} (x2 : Int) (h : ((1000 < x2 → Q (some (vI (V 4 8))) V) ∧ (¬ (1000 < x2) → Mf K d mX9_advance [vR 1] V (fun r V2 => r = none ∧ ((¬ (V2 1 4) = 0 → Mf K d mX5_readStatement [vR 4, vR 1] V2 (fun r V4 => ∃ z4, r = some (vI z4) ∧ ((¬ z4 = 0 → Wf K (d + 1) mX5_readIndex 31 [some (vR 4), some (vR 1), some (vI (w32 (x2 + 1)))] [] V4 Q) ∧ (z4 = 0 → Q (some (vI (V4 4 8))) V4)))) ∧ ((V2 1 4) = 0 → Q (some (vI 0)) V2)))))) : Wf K (d + 1) mX5_readIndex 31 [some (vR 4), some (vR 1), some (vI x2)] [] V Q := by
  refine wp_iload_n dX5_readIndex_31 rfl rfl ?_
  refine wp_sipush dX5_readIndex_32 (by decide) ?_
  refine wp_icmp_gt (tgt := 70) dX5_readIndex_35 rfl (fun c1 => ?_) (fun c1 => ?_)
  ·
    refine wp_aload_n dX5_readIndex_70 rfl rfl ?_
    refine wp_getI dX5_readIndex_71 fX5_48 rfl sh4 (by decide) ?_
    exact wp_ireturn dX5_readIndex_74 rfl ⟨rfl, rfl⟩ ⟨rfl, (h.1 c1)⟩
  ·
    refine wp_aload_n dX5_readIndex_38 rfl rfl ?_
    refine wp_callV (S := []) (as := []) dX5_readIndex_39 lX5_57 ((h.2 c1)) (by omega) sh1 rfl rfl (Nat.le_of_ble_eq_true rfl) ⟨Nat.le_refl _, Nat.le_refl _⟩ ?_
    rintro _ _ V2 ⟨rfl, rfl, q2⟩
    show Wp _ _ _ _ _ 42 _ [] _ _ _ _ _
    refine wp_aload_n dX5_readIndex_42 rfl rfl ?_
    refine wp_getI dX5_readIndex_43 fX5_60 rfl sh1 (by decide) ?_
    refine wp_if_ne (tgt := 51) dX5_readIndex_46 rfl (fun c3 => ?_) (fun c3 => ?_)
    ·
      refine wp_aload_n dX5_readIndex_51 rfl rfl ?_
      refine wp_aload_n dX5_readIndex_52 rfl rfl ?_
      refine wp_callV (S := []) (as := [vR 1]) dX5_readIndex_53 lX5_63 ((q2.1 c3)) (by omega) sh4 rfl rfl (Nat.le_of_ble_eq_true rfl) ⟨Nat.le_refl _, Nat.le_refl _⟩ ?_
      rintro _ _ V4 ⟨rfl, z4, rfl, q4⟩
      show Wp _ _ _ _ _ 56 _ [vI z4] _ _ _ _ _
      refine wp_if_ne (tgt := 64) dX5_readIndex_56 rfl (fun c5 => ?_) (fun c5 => ?_)
      ·
        refine wp_iinc dX5_readIndex_64 rfl rfl ?_
        refine wp_goto (tgt := 31) dX5_readIndex_67 rfl ?_
        exact (q4.1 c5)
      ·
        refine wp_aload_n dX5_readIndex_59 rfl rfl ?_
        refine wp_getI dX5_readIndex_60 fX5_48 rfl sh4 (by decide) ?_
        exact wp_ireturn dX5_readIndex_63 rfl ⟨rfl, rfl⟩ ⟨rfl, (q4.2 c5)⟩
    ·
      refine wp_iconst dX5_readIndex_49 (by decide) ?_
      exact wp_ireturn dX5_readIndex_50 rfl ⟨rfl, rfl⟩ ⟨rfl, (q2.2 c3)⟩
set_option maxHeartbeats 4000000 in
set_option maxRecDepth 10000 in
theorem sX5_readWork {K : KK} {d : Nat} {V : Mem} {Q : Option AV → Mem → Prop} (a2 : Nat) (h2 : IsStore a2) (h : Wf K (d + 1) mX5_readWork 20 [some (vR 4), some (vR 1), some (vR a2), some (vI 0)] [] (upm (upm (upm V 38 3 0) 4 8 0) 1 3 0) Q) : Mf K (d + 1) mX5_readWork [vR 4, vR 1, vR a2] V Q := by
  refine Mt.of2 (L := [some (vR 4), some (vR 1), some (vR a2), none]) pnX5 rfl rfl ?_
  refine wp_aload_n dX5_readWork_0 rfl rfl ?_
  refine wp_getR (b := 38) dX5_readWork_1 fX5_30 rfl sh4 (by decide) rfl ?_
  refine wp_iconst dX5_readWork_4 (by decide) ?_
  refine wp_putI dX5_readWork_5 fwX5_67 rfl sh38 (by decide) ?_
  refine wp_aload_n dX5_readWork_8 rfl rfl ?_
  refine wp_iconst dX5_readWork_9 (by decide) ?_
  refine wp_putI dX5_readWork_10 fwX5_48 rfl sh4 (by decide) ?_
  refine wp_aload_n dX5_readWork_13 rfl rfl ?_
  refine wp_iconst dX5_readWork_14 (by decide) ?_
  refine wp_putI dX5_readWork_15 fwX5_52 rfl sh1 (by decide) ?_
  refine wp_iconst dX5_readWork_18 (by decide) ?_
  refine wp_istore_n dX5_readWork_19 rfl (by decide) rfl ?_
  exact h
set_option maxHeartbeats 4000000 in
set_option maxRecDepth 10000 in
theorem sX5_readWork_20 {K : KK} {d : Nat} {V : Mem} {Q : Option AV → Mem → Prop} (a2 : Nat) (x3 : Int) (h2 : IsStore a2) (h : ((1000 < x3 → Q (some (vI (V 4 8))) V) ∧ (¬ (1000 < x3) → Mf K d mX9_advance [vR 1] V (fun r V2 => r = none ∧ ((¬ (V2 1 4) = 0 → Mf K d mX5_readLine [vR 4, vR 1, vR a2] V2 (fun r V4 => ∃ z4, r = some (vI z4) ∧ ((¬ z4 = 0 → Wf K (d + 1) mX5_readWork 20 [some (vR 4), some (vR 1), some (vR a2), some (vI (w32 (x3 + 1)))] [] V4 Q) ∧ (z4 = 0 → Q (some (vI (V4 4 8))) V4)))) ∧ ((V2 1 4) = 0 → Q (some (vI 0)) V2)))))) : Wf K (d + 1) mX5_readWork 20 [some (vR 4), some (vR 1), some (vR a2), some (vI x3)] [] V Q := by
  refine wp_iload_n dX5_readWork_20 rfl rfl ?_
  refine wp_sipush dX5_readWork_21 (by decide) ?_
  refine wp_icmp_gt (tgt := 60) dX5_readWork_24 rfl (fun c1 => ?_) (fun c1 => ?_)
  ·
    refine wp_aload_n dX5_readWork_60 rfl rfl ?_
    refine wp_getI dX5_readWork_61 fX5_48 rfl sh4 (by decide) ?_
    exact wp_ireturn dX5_readWork_64 rfl ⟨rfl, rfl⟩ ⟨rfl, (h.1 c1)⟩
  ·
    refine wp_aload_n dX5_readWork_27 rfl rfl ?_
    refine wp_callV (S := []) (as := []) dX5_readWork_28 lX5_57 ((h.2 c1)) (by omega) sh1 rfl rfl (Nat.le_of_ble_eq_true rfl) ⟨Nat.le_refl _, Nat.le_refl _⟩ ?_
    rintro _ _ V2 ⟨rfl, rfl, q2⟩
    show Wp _ _ _ _ _ 31 _ [] _ _ _ _ _
    refine wp_aload_n dX5_readWork_31 rfl rfl ?_
    refine wp_getI dX5_readWork_32 fX5_60 rfl sh1 (by decide) ?_
    refine wp_if_ne (tgt := 40) dX5_readWork_35 rfl (fun c3 => ?_) (fun c3 => ?_)
    ·
      refine wp_aload_n dX5_readWork_40 rfl rfl ?_
      refine wp_aload_n dX5_readWork_41 rfl rfl ?_
      refine wp_aload_n dX5_readWork_42 rfl rfl ?_
      refine wp_callV (S := []) (as := [vR 1, vR a2]) dX5_readWork_43 lX5_70 ((q2.1 c3)) (by omega) sh4 rfl rfl (Nat.le_of_ble_eq_true rfl) ⟨Nat.le_refl _, Nat.le_refl _⟩ ?_
      rintro _ _ V4 ⟨rfl, z4, rfl, q4⟩
      show Wp _ _ _ _ _ 46 _ [vI z4] _ _ _ _ _
      refine wp_if_ne (tgt := 54) dX5_readWork_46 rfl (fun c5 => ?_) (fun c5 => ?_)
      ·
        refine wp_iinc dX5_readWork_54 rfl rfl ?_
        refine wp_goto (tgt := 20) dX5_readWork_57 rfl ?_
        exact (q4.1 c5)
      ·
        refine wp_aload_n dX5_readWork_49 rfl rfl ?_
        refine wp_getI dX5_readWork_50 fX5_48 rfl sh4 (by decide) ?_
        exact wp_ireturn dX5_readWork_53 rfl ⟨rfl, rfl⟩ ⟨rfl, (q4.2 c5)⟩
    ·
      refine wp_iconst dX5_readWork_38 (by decide) ?_
      exact wp_ireturn dX5_readWork_39 rfl ⟨rfl, rfl⟩ ⟨rfl, (q2.2 c3)⟩
set_option maxHeartbeats 4000000 in
set_option maxRecDepth 10000 in
theorem sX5_wrong {K : KK} {d : Nat} {V : Mem} {Q : Option AV → Mem → Prop} (x2 : Int) (h : Q (some (vI 0)) (upm V 4 8 (w32 (x2 + (w32 (16 * (V 1 5))))))) : Mf K d mX5_wrong [vR 4, vR 1, vI x2] V Q := by
  refine Mt.of2 (L := [some (vR 4), some (vR 1), some (vI x2)]) pnX5 rfl rfl ?_
  refine wp_aload_n dX5_wrong_0 rfl rfl ?_
  refine wp_iload_n dX5_wrong_1 rfl rfl ?_
  refine wp_bipush dX5_wrong_2 (by decide) ?_
  refine wp_aload_n dX5_wrong_4 rfl rfl ?_
  refine wp_getI dX5_wrong_5 fX5_74 rfl sh1 (by decide) ?_
  refine wp_imul dX5_wrong_8 ?_
  refine wp_iadd dX5_wrong_9 ?_
  refine wp_putI dX5_wrong_10 fwX5_48 rfl sh4 (by decide) ?_
  refine wp_iconst dX5_wrong_13 (by decide) ?_
  exact wp_zreturn dX5_wrong_14 rfl ⟨rfl, rfl⟩ (by decide) ⟨rfl, h⟩
set_option maxHeartbeats 4000000 in
set_option maxRecDepth 10000 in
theorem sX5_readStatement {K : KK} {d : Nat} {V : Mem} {Q : Option AV → Mem → Prop}  (h : (((V 1 7) = 128 → Mf K d mX5_readRow [vR 4, vR 1] V (fun r V1 => ∃ z1, r = some (vI z1) ∧ ((z1 = 0 ∨ z1 = 1) ∧ Q (some (vI z1)) V1))) ∧ ((V 1 7) = 129 → Mf K d mX5_readBraid [vR 4, vR 1] V (fun r V2 => ∃ z2, r = some (vI z2) ∧ ((z2 = 0 ∨ z2 = 1) ∧ Q (some (vI z2)) V2))) ∧ ((V 1 7) = 130 → Mf K d mX5_readLaw [vR 4, vR 1] V (fun r V3 => ∃ z3, r = some (vI z3) ∧ ((z3 = 0 ∨ z3 = 1) ∧ Q (some (vI z3)) V3))) ∧ (((V 1 7) < 128 ∨ 130 < (V 1 7)) → Q (some (vI 0)) (upm V 4 8 (w32 (1 + (w32 (16 * (V 1 5))))))))) : Mf K (d + 1) mX5_readStatement [vR 4, vR 1] V Q := by
  refine Mt.of2 (L := [some (vR 4), some (vR 1)]) pnX5 rfl rfl ?_
  refine wp_aload_n dX5_readStatement_0 rfl rfl ?_
  refine wp_getI dX5_readStatement_1 fX5_77 rfl sh1 (by decide) ?_
  refine tswS 128 130 (V 1 7) (fun o4 => ?_) (fun l4 u4 => ?_)
  ·
    refine wp_tswOut (tgt := 50) dX5_readStatement_4 o4 rfl ?_
    refine wp_aload_n dX5_readStatement_50 rfl rfl ?_
    refine wp_aload_n dX5_readStatement_51 rfl rfl ?_
    refine wp_iconst dX5_readStatement_52 (by decide) ?_
    refine wp_inlV (d' := d) (S := []) (as := [vR 1, vI 1]) dX5_readStatement_53 lX5_89 (by omega) sh4 rfl rfl (Nat.le_of_ble_eq_true rfl) ⟨Nat.le_refl _, Nat.le_refl _⟩ (Mt.of2 (L := [some (vR 4), some (vR 1), some (vI 1)]) pnX5 rfl rfl ?_)
    refine wp_aload_n dX5_wrong_0 rfl rfl ?_
    refine wp_iload_n dX5_wrong_1 rfl rfl ?_
    refine wp_bipush dX5_wrong_2 (by decide) ?_
    refine wp_aload_n dX5_wrong_4 rfl rfl ?_
    refine wp_getI dX5_wrong_5 fX5_74 rfl sh1 (by decide) ?_
    refine wp_imul dX5_wrong_8 ?_
    refine wp_iadd dX5_wrong_9 ?_
    refine wp_putI dX5_wrong_10 fwX5_48 rfl sh4 (by decide) ?_
    refine wp_iconst dX5_wrong_13 (by decide) ?_
    refine wp_zreturn dX5_wrong_14 rfl ⟨rfl, rfl⟩ (by decide) ?_
    show Wp _ _ _ _ _ 56 _ [vI 0] _ _ _ _ _
    exact wp_zreturn dX5_readStatement_56 rfl ⟨rfl, rfl⟩ (by decide) ⟨rfl, ((h.2.2.2) o4)⟩
  ·
    rcases (show (V 1 7) = 128 ∨ (V 1 7) = 129 ∨ (V 1 7) = 130 by omega) with e4 | e4 | e4
    ·
      refine wp_tswIn (tgt := 32) dX5_readStatement_4 l4 u4 (by rw [e4] <;> rfl) rfl ?_
      refine wp_aload_n dX5_readStatement_32 rfl rfl ?_
      refine wp_aload_n dX5_readStatement_33 rfl rfl ?_
      refine wp_callV (S := []) (as := [vR 1]) dX5_readStatement_34 lX5_80 (((h.1) e4)) (by omega) sh4 rfl rfl (Nat.le_of_ble_eq_true rfl) ⟨Nat.le_refl _, Nat.le_refl _⟩ ?_
      rintro _ _ V1 ⟨rfl, z1, rfl, q1⟩
      show Wp _ _ _ _ _ 37 _ [vI z1] _ _ _ _ _
      exact wp_zreturn dX5_readStatement_37 rfl ⟨rfl, rfl⟩ q1.1 ⟨rfl, q1.2⟩
    ·
      refine wp_tswIn (tgt := 38) dX5_readStatement_4 l4 u4 (by rw [e4] <;> rfl) rfl ?_
      refine wp_aload_n dX5_readStatement_38 rfl rfl ?_
      refine wp_aload_n dX5_readStatement_39 rfl rfl ?_
      refine wp_callV (S := []) (as := [vR 1]) dX5_readStatement_40 lX5_83 (((h.2.1) e4)) (by omega) sh4 rfl rfl (Nat.le_of_ble_eq_true rfl) ⟨Nat.le_refl _, Nat.le_refl _⟩ ?_
      rintro _ _ V2 ⟨rfl, z2, rfl, q2⟩
      show Wp _ _ _ _ _ 43 _ [vI z2] _ _ _ _ _
      exact wp_zreturn dX5_readStatement_43 rfl ⟨rfl, rfl⟩ q2.1 ⟨rfl, q2.2⟩
    ·
      refine wp_tswIn (tgt := 44) dX5_readStatement_4 l4 u4 (by rw [e4] <;> rfl) rfl ?_
      refine wp_aload_n dX5_readStatement_44 rfl rfl ?_
      refine wp_aload_n dX5_readStatement_45 rfl rfl ?_
      refine wp_callV (S := []) (as := [vR 1]) dX5_readStatement_46 lX5_86 (((h.2.2.1) e4)) (by omega) sh4 rfl rfl (Nat.le_of_ble_eq_true rfl) ⟨Nat.le_refl _, Nat.le_refl _⟩ ?_
      rintro _ _ V3 ⟨rfl, z3, rfl, q3⟩
      show Wp _ _ _ _ _ 49 _ [vI z3] _ _ _ _ _
      exact wp_zreturn dX5_readStatement_49 rfl ⟨rfl, rfl⟩ q3.1 ⟨rfl, q3.2⟩
set_option maxHeartbeats 4000000 in
set_option maxRecDepth 10000 in
theorem sX5_readNewName {K : KK} {d : Nat} {V : Mem} {Q : Option AV → Mem → Prop}  (h : Mf K d mX9_advance [vR 1] V (fun r V1 => r = none ∧ Mf K d mX9_isName [vR 1] V1 (fun r V2 => ∃ z2, r = some (vI z2) ∧ ((¬ z2 = 0 → Mf K d mX7_rowNamed [vR 5, vJ (V2 1 8)] V2 (fun r V4 => ∃ z4, r = some (vI z4) ∧ ((¬ z4 = (-1) → Q (some (vI 0)) (upm V4 4 8 (w32 (3 + (w32 (16 * (V4 1 5))))))) ∧ (z4 = (-1) → Mf K d mX7_braidNamed [vR 5, vJ (V4 1 8)] V4 (fun r V6 => ∃ z6, r = some (vI z6) ∧ ((z6 = (-1) → Q (some (vI 1)) V6) ∧ (¬ (z6 = (-1)) → Q (some (vI 0)) (upm V6 4 8 (w32 (3 + (w32 (16 * (V6 1 5))))))))))))) ∧ (z2 = 0 → Q (some (vI 0)) (upm V2 4 8 (w32 (1 + (w32 (16 * (V2 1 5))))))))))) : Mf K (d + 1) mX5_readNewName [vR 4, vR 1] V Q := by
  refine Mt.of2 (L := [some (vR 4), some (vR 1)]) pnX5 rfl rfl ?_
  refine wp_aload_n dX5_readNewName_0 rfl rfl ?_
  refine wp_callV (S := []) (as := []) dX5_readNewName_1 lX5_57 (h) (by omega) sh1 rfl rfl (Nat.le_of_ble_eq_true rfl) ⟨Nat.le_refl _, Nat.le_refl _⟩ ?_
  rintro _ _ V1 ⟨rfl, rfl, q1⟩
  show Wp _ _ _ _ _ 4 _ [] _ _ _ _ _
  refine wp_aload_n dX5_readNewName_4 rfl rfl ?_
  refine wp_callV (S := []) (as := []) dX5_readNewName_5 lX5_93 (q1) (by omega) sh1 rfl rfl (Nat.le_of_ble_eq_true rfl) ⟨Nat.le_refl _, Nat.le_refl _⟩ ?_
  rintro _ _ V2 ⟨rfl, z2, rfl, q2⟩
  show Wp _ _ _ _ _ 8 _ [vI z2] _ _ _ _ _
  refine wp_if_ne (tgt := 18) dX5_readNewName_8 rfl (fun c3 => ?_) (fun c3 => ?_)
  ·
    refine wp_aload_n dX5_readNewName_18 rfl rfl ?_
    refine wp_getR (b := 5) dX5_readNewName_19 fX5_12 rfl sh4 (by decide) rfl ?_
    refine wp_aload_n dX5_readNewName_22 rfl rfl ?_
    refine wp_getJ dX5_readNewName_23 fX5_97 rfl sh1 (by decide) ?_
    refine wp_callV (S := []) (as := [vJ (V2 1 8)]) dX5_readNewName_26 lX5_101 ((q2.1 c3)) (by omega) sh5 rfl rfl (Nat.le_of_ble_eq_true rfl) ⟨Nat.le_refl _, Nat.le_refl _⟩ ?_
    rintro _ _ V4 ⟨rfl, z4, rfl, q4⟩
    show Wp _ _ _ _ _ 29 _ [vI z4] _ _ _ _ _
    refine wp_iconst dX5_readNewName_29 (by decide) ?_
    refine wp_icmp_ne (tgt := 48) dX5_readNewName_30 rfl (fun c5 => ?_) (fun c5 => ?_)
    ·
      refine wp_aload_n dX5_readNewName_48 rfl rfl ?_
      refine wp_aload_n dX5_readNewName_49 rfl rfl ?_
      refine wp_iconst dX5_readNewName_50 (by decide) ?_
      refine wp_inlV (d' := d) (S := []) (as := [vR 1, vI 3]) dX5_readNewName_51 lX5_89 (by omega) sh4 rfl rfl (Nat.le_of_ble_eq_true rfl) ⟨Nat.le_refl _, Nat.le_refl _⟩ (Mt.of2 (L := [some (vR 4), some (vR 1), some (vI 3)]) pnX5 rfl rfl ?_)
      refine wp_aload_n dX5_wrong_0 rfl rfl ?_
      refine wp_iload_n dX5_wrong_1 rfl rfl ?_
      refine wp_bipush dX5_wrong_2 (by decide) ?_
      refine wp_aload_n dX5_wrong_4 rfl rfl ?_
      refine wp_getI dX5_wrong_5 fX5_74 rfl sh1 (by decide) ?_
      refine wp_imul dX5_wrong_8 ?_
      refine wp_iadd dX5_wrong_9 ?_
      refine wp_putI dX5_wrong_10 fwX5_48 rfl sh4 (by decide) ?_
      refine wp_iconst dX5_wrong_13 (by decide) ?_
      refine wp_zreturn dX5_wrong_14 rfl ⟨rfl, rfl⟩ (by decide) ?_
      show Wp _ _ _ _ _ 54 _ [vI 0] _ _ _ _ _
      exact wp_zreturn dX5_readNewName_54 rfl ⟨rfl, rfl⟩ (by decide) ⟨rfl, (q4.1 c5)⟩
    ·
      refine wp_aload_n dX5_readNewName_33 rfl rfl ?_
      refine wp_getR (b := 5) dX5_readNewName_34 fX5_12 rfl sh4 (by decide) rfl ?_
      refine wp_aload_n dX5_readNewName_37 rfl rfl ?_
      refine wp_getJ dX5_readNewName_38 fX5_97 rfl sh1 (by decide) ?_
      refine wp_callV (S := []) (as := [vJ (V4 1 8)]) dX5_readNewName_41 lX5_105 ((q4.2 c5)) (by omega) sh5 rfl rfl (Nat.le_of_ble_eq_true rfl) ⟨Nat.le_refl _, Nat.le_refl _⟩ ?_
      rintro _ _ V6 ⟨rfl, z6, rfl, q6⟩
      show Wp _ _ _ _ _ 44 _ [vI z6] _ _ _ _ _
      refine wp_iconst dX5_readNewName_44 (by decide) ?_
      refine wp_icmp_eq (tgt := 55) dX5_readNewName_45 rfl (fun c7 => ?_) (fun c7 => ?_)
      ·
        refine wp_iconst dX5_readNewName_55 (by decide) ?_
        exact wp_zreturn dX5_readNewName_56 rfl ⟨rfl, rfl⟩ (by decide) ⟨rfl, (q6.1 c7)⟩
      ·
        refine wp_aload_n dX5_readNewName_48 rfl rfl ?_
        refine wp_aload_n dX5_readNewName_49 rfl rfl ?_
        refine wp_iconst dX5_readNewName_50 (by decide) ?_
        refine wp_inlV (d' := d) (S := []) (as := [vR 1, vI 3]) dX5_readNewName_51 lX5_89 (by omega) sh4 rfl rfl (Nat.le_of_ble_eq_true rfl) ⟨Nat.le_refl _, Nat.le_refl _⟩ (Mt.of2 (L := [some (vR 4), some (vR 1), some (vI 3)]) pnX5 rfl rfl ?_)
        refine wp_aload_n dX5_wrong_0 rfl rfl ?_
        refine wp_iload_n dX5_wrong_1 rfl rfl ?_
        refine wp_bipush dX5_wrong_2 (by decide) ?_
        refine wp_aload_n dX5_wrong_4 rfl rfl ?_
        refine wp_getI dX5_wrong_5 fX5_74 rfl sh1 (by decide) ?_
        refine wp_imul dX5_wrong_8 ?_
        refine wp_iadd dX5_wrong_9 ?_
        refine wp_putI dX5_wrong_10 fwX5_48 rfl sh4 (by decide) ?_
        refine wp_iconst dX5_wrong_13 (by decide) ?_
        refine wp_zreturn dX5_wrong_14 rfl ⟨rfl, rfl⟩ (by decide) ?_
        show Wp _ _ _ _ _ 54 _ [vI 0] _ _ _ _ _
        exact wp_zreturn dX5_readNewName_54 rfl ⟨rfl, rfl⟩ (by decide) ⟨rfl, (q6.2 c7)⟩
  ·
    refine wp_aload_n dX5_readNewName_11 rfl rfl ?_
    refine wp_aload_n dX5_readNewName_12 rfl rfl ?_
    refine wp_iconst dX5_readNewName_13 (by decide) ?_
    refine wp_inlV (d' := d) (S := []) (as := [vR 1, vI 1]) dX5_readNewName_14 lX5_89 (by omega) sh4 rfl rfl (Nat.le_of_ble_eq_true rfl) ⟨Nat.le_refl _, Nat.le_refl _⟩ (Mt.of2 (L := [some (vR 4), some (vR 1), some (vI 1)]) pnX5 rfl rfl ?_)
    refine wp_aload_n dX5_wrong_0 rfl rfl ?_
    refine wp_iload_n dX5_wrong_1 rfl rfl ?_
    refine wp_bipush dX5_wrong_2 (by decide) ?_
    refine wp_aload_n dX5_wrong_4 rfl rfl ?_
    refine wp_getI dX5_wrong_5 fX5_74 rfl sh1 (by decide) ?_
    refine wp_imul dX5_wrong_8 ?_
    refine wp_iadd dX5_wrong_9 ?_
    refine wp_putI dX5_wrong_10 fwX5_48 rfl sh4 (by decide) ?_
    refine wp_iconst dX5_wrong_13 (by decide) ?_
    refine wp_zreturn dX5_wrong_14 rfl ⟨rfl, rfl⟩ (by decide) ?_
    show Wp _ _ _ _ _ 17 _ [vI 0] _ _ _ _ _
    exact wp_zreturn dX5_readNewName_17 rfl ⟨rfl, rfl⟩ (by decide) ⟨rfl, (q2.2 c3)⟩
set_option maxHeartbeats 4000000 in
set_option maxRecDepth 10000 in
theorem sX5_readRow {K : KK} {d : Nat} {V : Mem} {Q : Option AV → Mem → Prop}  (h : (((V 5 5) < 4 → Mf K d mX5_readNewName [vR 4, vR 1] V (fun r V2 => ∃ z2, r = some (vI z2) ∧ ((¬ z2 = 0 → (((0 : Int) ≤ (V2 5 5) ∧ (V2 5 5) < (4 : Nat)) ∧ Mf K d mX9_advance [vR 1] (upm (upm V2 (11 + 2 * Int.toNat (V2 5 5)) 1 (V2 1 8)) (11 + 2 * Int.toNat (V2 5 5)) 3 0) (fun r V5 => r = none ∧ (((V5 1 7) < 136 → Wf K (d + 1) mX5_readRow 81 [some (vR 4), some (vR 1), none, none] [] V5 Q) ∧ (¬ ((V5 1 7) < 136) → (((V5 1 7) ≤ 139 → Wf K (d + 1) mX5_readRow 102 [some (vR 4), some (vR 1), some (vR (11 + 2 * Int.toNat (V2 5 5))), some (vI 0)] [] (upm V5 (11 + 2 * Int.toNat (V2 5 5)) 2 (w32 ((V5 1 7) - 136))) Q) ∧ (¬ ((V5 1 7) ≤ 139) → Wf K (d + 1) mX5_readRow 81 [some (vR 4), some (vR 1), none, none] [] V5 Q))))))) ∧ (z2 = 0 → Q (some (vI 0)) V2)))) ∧ (¬ ((V 5 5) < 4) → Q (some (vI 0)) (upm V 4 8 (w32 (5 + (w32 (16 * (V 1 5))))))))) : Mf K (d + 1) mX5_readRow [vR 4, vR 1] V Q := by
  refine Mt.of2 (L := [some (vR 4), some (vR 1), none, none]) pnX5 rfl rfl ?_
  refine wp_aload_n dX5_readRow_0 rfl rfl ?_
  refine wp_getR (b := 5) dX5_readRow_1 fX5_12 rfl sh4 (by decide) rfl ?_
  refine wp_getI dX5_readRow_4 fX5_108 rfl sh5 (by decide) ?_
  refine wp_iconst dX5_readRow_7 (by decide) ?_
  refine wp_icmp_lt (tgt := 18) dX5_readRow_8 rfl (fun c1 => ?_) (fun c1 => ?_)
  ·
    refine wp_aload_n dX5_readRow_18 rfl rfl ?_
    refine wp_aload_n dX5_readRow_19 rfl rfl ?_
    refine wp_callV (S := []) (as := [vR 1]) dX5_readRow_20 lX5_111 ((h.1 c1)) (by omega) sh4 rfl rfl (Nat.le_of_ble_eq_true rfl) ⟨Nat.le_refl _, Nat.le_refl _⟩ ?_
    rintro _ _ V2 ⟨rfl, z2, rfl, q2⟩
    show Wp _ _ _ _ _ 23 _ [vI z2] _ _ _ _ _
    refine wp_if_ne (tgt := 28) dX5_readRow_23 rfl (fun c3 => ?_) (fun c3 => ?_)
    ·
      refine wp_aload_n dX5_readRow_28 rfl rfl ?_
      refine wp_getR (b := 5) dX5_readRow_29 fX5_12 rfl sh4 (by decide) rfl ?_
      refine wp_getR (b := 6) dX5_readRow_32 fX5_114 rfl sh5 (by decide) rfl ?_
      refine wp_aload_n dX5_readRow_35 rfl rfl ?_
      refine wp_getR (b := 5) dX5_readRow_36 fX5_12 rfl sh4 (by decide) rfl ?_
      refine wp_getI dX5_readRow_39 fX5_108 rfl sh5 (by decide) ?_
      have g4 : (0 : Int) ≤ (V2 5 5) ∧ (V2 5 5) < (4 : Nat) := (q2.1 c3).1
      refine wp_aald (b := (11 + 2 * Int.toNat (V2 5 5))) dX5_readRow_42 sh6 (by decide) g4 (ap_get (b := 11) (s := 2) (n := 4) g4) ?_
      refine wp_astore_n dX5_readRow_43 rfl (by decide) rfl ?_
      refine wp_aload_n dX5_readRow_44 rfl rfl ?_
      refine wp_aload_n dX5_readRow_45 rfl rfl ?_
      refine wp_getJ dX5_readRow_46 fX5_97 rfl sh1 (by decide) ?_
      refine wp_putJ dX5_readRow_49 fwX5_118 rfl (obj6 g4).1 (by decide) ?_
      refine wp_aload_n dX5_readRow_52 rfl rfl ?_
      refine wp_iconst dX5_readRow_53 (by decide) ?_
      refine wp_putI dX5_readRow_54 fwX5_123 rfl (obj6 g4).1 (by decide) ?_
      refine wp_aload_n dX5_readRow_57 rfl rfl ?_
      refine wp_callV (S := []) (as := []) dX5_readRow_58 lX5_57 ((q2.1 c3).2) (by omega) sh1 rfl rfl (Nat.le_of_ble_eq_true rfl) ⟨Nat.le_refl _, Nat.le_refl _⟩ ?_
      rintro _ _ V5 ⟨rfl, rfl, q5⟩
      show Wp _ _ _ _ _ 61 _ [] _ _ _ _ _
      refine wp_aload_n dX5_readRow_61 rfl rfl ?_
      refine wp_getI dX5_readRow_62 fX5_77 rfl sh1 (by decide) ?_
      refine wp_sipush dX5_readRow_65 (by decide) ?_
      refine wp_icmp_lt (tgt := 81) dX5_readRow_68 rfl (fun c6 => ?_) (fun c6 => ?_)
      ·
        exact wp_loc (L2 := [some (vR 4), some (vR 1), none, none]) ⟨rfl, ⟨rfl, trivial⟩⟩ (q5.1 c6)
      ·
        refine wp_aload_n dX5_readRow_71 rfl rfl ?_
        refine wp_getI dX5_readRow_72 fX5_77 rfl sh1 (by decide) ?_
        refine wp_sipush dX5_readRow_75 (by decide) ?_
        refine wp_icmp_le (tgt := 88) dX5_readRow_78 rfl (fun c7 => ?_) (fun c7 => ?_)
        ·
          refine wp_aload_n dX5_readRow_88 rfl rfl ?_
          refine wp_aload_n dX5_readRow_89 rfl rfl ?_
          refine wp_getI dX5_readRow_90 fX5_77 rfl sh1 (by decide) ?_
          refine wp_sipush dX5_readRow_93 (by decide) ?_
          refine wp_isub dX5_readRow_96 ?_
          refine wp_putI dX5_readRow_97 fwX5_126 rfl (obj6 g4).1 (by decide) ?_
          refine wp_iconst dX5_readRow_100 (by decide) ?_
          refine wp_istore_n dX5_readRow_101 rfl (by decide) rfl ?_
          exact ((q5.2 c6).1 c7)
        ·
          exact wp_loc (L2 := [some (vR 4), some (vR 1), none, none]) ⟨rfl, ⟨rfl, trivial⟩⟩ ((q5.2 c6).2 c7)
    ·
      refine wp_iconst dX5_readRow_26 (by decide) ?_
      exact wp_zreturn dX5_readRow_27 rfl ⟨rfl, rfl⟩ (by decide) ⟨rfl, (q2.2 c3)⟩
  ·
    refine wp_aload_n dX5_readRow_11 rfl rfl ?_
    refine wp_aload_n dX5_readRow_12 rfl rfl ?_
    refine wp_iconst dX5_readRow_13 (by decide) ?_
    refine wp_inlV (d' := d) (S := []) (as := [vR 1, vI 5]) dX5_readRow_14 lX5_89 (by omega) sh4 rfl rfl (Nat.le_of_ble_eq_true rfl) ⟨Nat.le_refl _, Nat.le_refl _⟩ (Mt.of2 (L := [some (vR 4), some (vR 1), some (vI 5)]) pnX5 rfl rfl ?_)
    refine wp_aload_n dX5_wrong_0 rfl rfl ?_
    refine wp_iload_n dX5_wrong_1 rfl rfl ?_
    refine wp_bipush dX5_wrong_2 (by decide) ?_
    refine wp_aload_n dX5_wrong_4 rfl rfl ?_
    refine wp_getI dX5_wrong_5 fX5_74 rfl sh1 (by decide) ?_
    refine wp_imul dX5_wrong_8 ?_
    refine wp_iadd dX5_wrong_9 ?_
    refine wp_putI dX5_wrong_10 fwX5_48 rfl sh4 (by decide) ?_
    refine wp_iconst dX5_wrong_13 (by decide) ?_
    refine wp_zreturn dX5_wrong_14 rfl ⟨rfl, rfl⟩ (by decide) ?_
    show Wp _ _ _ _ _ 17 _ [vI 0] _ _ _ _ _
    exact wp_zreturn dX5_readRow_17 rfl ⟨rfl, rfl⟩ (by decide) ⟨rfl, (h.2 c1)⟩
set_option maxHeartbeats 4000000 in
set_option maxRecDepth 10000 in
theorem sX5_readRow_81 {K : KK} {d : Nat} {V : Mem} {Q : Option AV → Mem → Prop}  (h : Q (some (vI 0)) (upm V 4 8 (w32 (1 + (w32 (16 * (V 1 5))))))) : Wf K (d + 1) mX5_readRow 81 [some (vR 4), some (vR 1), none, none] [] V Q := by
  refine wp_aload_n dX5_readRow_81 rfl rfl ?_
  refine wp_aload_n dX5_readRow_82 rfl rfl ?_
  refine wp_iconst dX5_readRow_83 (by decide) ?_
  refine wp_inlV (d' := d) (S := []) (as := [vR 1, vI 1]) dX5_readRow_84 lX5_89 (by omega) sh4 rfl rfl (Nat.le_of_ble_eq_true rfl) ⟨Nat.le_refl _, Nat.le_refl _⟩ (Mt.of2 (L := [some (vR 4), some (vR 1), some (vI 1)]) pnX5 rfl rfl ?_)
  refine wp_aload_n dX5_wrong_0 rfl rfl ?_
  refine wp_iload_n dX5_wrong_1 rfl rfl ?_
  refine wp_bipush dX5_wrong_2 (by decide) ?_
  refine wp_aload_n dX5_wrong_4 rfl rfl ?_
  refine wp_getI dX5_wrong_5 fX5_74 rfl sh1 (by decide) ?_
  refine wp_imul dX5_wrong_8 ?_
  refine wp_iadd dX5_wrong_9 ?_
  refine wp_putI dX5_wrong_10 fwX5_48 rfl sh4 (by decide) ?_
  refine wp_iconst dX5_wrong_13 (by decide) ?_
  refine wp_zreturn dX5_wrong_14 rfl ⟨rfl, rfl⟩ (by decide) ?_
  show Wp _ _ _ _ _ 87 _ [vI 0] _ _ _ _ _
  exact wp_zreturn dX5_readRow_87 rfl ⟨rfl, rfl⟩ (by decide) ⟨rfl, h⟩
set_option maxHeartbeats 4000000 in
set_option maxRecDepth 10000 in
theorem sX5_readRow_102 {K : KK} {d : Nat} {V : Mem} {Q : Option AV → Mem → Prop} (a2 : Nat) (x3 : Int) (h2 : IsRow a2) (h : ((20 < x3 → Q (some (vI 0)) V) ∧ (¬ (20 < x3) → Mf K d mX9_advance [vR 1] V (fun r V2 => r = none ∧ ((¬ (V2 1 7) = 59 → Wf K (d + 1) mX5_readRow 143 [some (vR 4), some (vR 1), some (vR a2), some (vI x3)] [] V2 Q) ∧ ((V2 1 7) = 59 → (((V2 a2 3) ≤ 0 → Wf K (d + 1) mX5_readRow 143 [some (vR 4), some (vR 1), some (vR a2), some (vI x3)] [] V2 Q) ∧ (¬ ((V2 a2 3) ≤ 0) → Q (some (vI 1)) (upm V2 5 5 (w32 ((V2 5 5) + 1))))))))))) : Wf K (d + 1) mX5_readRow 102 [some (vR 4), some (vR 1), some (vR a2), some (vI x3)] [] V Q := by
  refine wp_iload_n dX5_readRow_102 rfl rfl ?_
  refine wp_bipush dX5_readRow_103 (by decide) ?_
  refine wp_icmp_gt (tgt := 198) dX5_readRow_105 rfl (fun c1 => ?_) (fun c1 => ?_)
  ·
    refine wp_iconst dX5_readRow_198 (by decide) ?_
    exact wp_zreturn dX5_readRow_199 rfl ⟨rfl, rfl⟩ (by decide) ⟨rfl, (h.1 c1)⟩
  ·
    refine wp_aload_n dX5_readRow_108 rfl rfl ?_
    refine wp_callV (S := []) (as := []) dX5_readRow_109 lX5_57 ((h.2 c1)) (by omega) sh1 rfl rfl (Nat.le_of_ble_eq_true rfl) ⟨Nat.le_refl _, Nat.le_refl _⟩ ?_
    rintro _ _ V2 ⟨rfl, rfl, q2⟩
    show Wp _ _ _ _ _ 112 _ [] _ _ _ _ _
    refine wp_aload_n dX5_readRow_112 rfl rfl ?_
    refine wp_getI dX5_readRow_113 fX5_77 rfl sh1 (by decide) ?_
    refine wp_bipush dX5_readRow_116 (by decide) ?_
    refine wp_icmp_ne (tgt := 143) dX5_readRow_118 rfl (fun c3 => ?_) (fun c3 => ?_)
    ·
      exact (q2.1 c3)
    ·
      refine wp_aload_n dX5_readRow_121 rfl rfl ?_
      refine wp_getI dX5_readRow_122 fX5_123 rfl h2.1 (by decide) ?_
      refine wp_if_le (tgt := 143) dX5_readRow_125 rfl (fun c4 => ?_) (fun c4 => ?_)
      ·
        exact ((q2.2 c3).1 c4)
      ·
        refine wp_aload_n dX5_readRow_128 rfl rfl ?_
        refine wp_getR (b := 5) dX5_readRow_129 fX5_12 rfl sh4 (by decide) rfl ?_
        refine wp_dup dX5_readRow_132 rfl ?_
        refine wp_getI dX5_readRow_133 fX5_108 rfl sh5 (by decide) ?_
        refine wp_iconst dX5_readRow_136 (by decide) ?_
        refine wp_iadd dX5_readRow_137 ?_
        refine wp_putI dX5_readRow_138 fwX5_108 rfl sh5 (by decide) ?_
        refine wp_iconst dX5_readRow_141 (by decide) ?_
        exact wp_zreturn dX5_readRow_142 rfl ⟨rfl, rfl⟩ (by decide) ⟨rfl, ((q2.2 c3).2 c4)⟩
set_option maxHeartbeats 4000000 in
set_option maxRecDepth 10000 in
theorem sX5_readRow_143 {K : KK} {d : Nat} {V : Mem} {Q : Option AV → Mem → Prop} (a2 : Nat) (x3 : Int) (h2 : IsRow a2) (h : (((V 1 4) = 3 → (((V 1 6) ≤ 99 → Mf K d mX6_add [vR a2, vI (V 1 6)] V (fun r V3 => ∃ z3, r = some (vI z3) ∧ ((¬ z3 = 0 → Wf K (d + 1) mX5_readRow 102 [some (vR 4), some (vR 1), some (vR a2), some (vI (w32 (x3 + 1)))] [] V3 Q) ∧ (z3 = 0 → Q (some (vI 0)) (upm V3 4 8 (w32 (5 + (w32 (16 * (V3 1 5)))))))))) ∧ (¬ ((V 1 6) ≤ 99) → Q (some (vI 0)) (upm V 4 8 (w32 (4 + (w32 (16 * (V 1 5))))))))) ∧ (¬ ((V 1 4) = 3) → Q (some (vI 0)) (upm V 4 8 (w32 (1 + (w32 (16 * (V 1 5))))))))) : Wf K (d + 1) mX5_readRow 143 [some (vR 4), some (vR 1), some (vR a2), some (vI x3)] [] V Q := by
  refine wp_aload_n dX5_readRow_143 rfl rfl ?_
  refine wp_getI dX5_readRow_144 fX5_60 rfl sh1 (by decide) ?_
  refine wp_iconst dX5_readRow_147 (by decide) ?_
  refine wp_icmp_eq (tgt := 158) dX5_readRow_148 rfl (fun c1 => ?_) (fun c1 => ?_)
  ·
    refine wp_aload_n dX5_readRow_158 rfl rfl ?_
    refine wp_getI dX5_readRow_159 fX5_129 rfl sh1 (by decide) ?_
    refine wp_bipush dX5_readRow_162 (by decide) ?_
    refine wp_icmp_le (tgt := 174) dX5_readRow_164 rfl (fun c2 => ?_) (fun c2 => ?_)
    ·
      refine wp_aload_n dX5_readRow_174 rfl rfl ?_
      refine wp_aload_n dX5_readRow_175 rfl rfl ?_
      refine wp_getI dX5_readRow_176 fX5_129 rfl sh1 (by decide) ?_
      refine wp_callV (S := []) (as := [vI (V 1 6)]) dX5_readRow_179 lX5_132 (((h.1 c1).1 c2)) (by omega) h2.1 rfl rfl (Nat.le_of_ble_eq_true rfl) ⟨Nat.le_refl _, Nat.le_refl _⟩ ?_
      rintro _ _ V3 ⟨rfl, z3, rfl, q3⟩
      show Wp _ _ _ _ _ 182 _ [vI z3] _ _ _ _ _
      refine wp_if_ne (tgt := 192) dX5_readRow_182 rfl (fun c4 => ?_) (fun c4 => ?_)
      ·
        refine wp_iinc dX5_readRow_192 rfl rfl ?_
        refine wp_goto (tgt := 102) dX5_readRow_195 rfl ?_
        exact (q3.1 c4)
      ·
        refine wp_aload_n dX5_readRow_185 rfl rfl ?_
        refine wp_aload_n dX5_readRow_186 rfl rfl ?_
        refine wp_iconst dX5_readRow_187 (by decide) ?_
        refine wp_inlV (d' := d) (S := []) (as := [vR 1, vI 5]) dX5_readRow_188 lX5_89 (by omega) sh4 rfl rfl (Nat.le_of_ble_eq_true rfl) ⟨Nat.le_refl _, Nat.le_refl _⟩ (Mt.of2 (L := [some (vR 4), some (vR 1), some (vI 5)]) pnX5 rfl rfl ?_)
        refine wp_aload_n dX5_wrong_0 rfl rfl ?_
        refine wp_iload_n dX5_wrong_1 rfl rfl ?_
        refine wp_bipush dX5_wrong_2 (by decide) ?_
        refine wp_aload_n dX5_wrong_4 rfl rfl ?_
        refine wp_getI dX5_wrong_5 fX5_74 rfl sh1 (by decide) ?_
        refine wp_imul dX5_wrong_8 ?_
        refine wp_iadd dX5_wrong_9 ?_
        refine wp_putI dX5_wrong_10 fwX5_48 rfl sh4 (by decide) ?_
        refine wp_iconst dX5_wrong_13 (by decide) ?_
        refine wp_zreturn dX5_wrong_14 rfl ⟨rfl, rfl⟩ (by decide) ?_
        show Wp _ _ _ _ _ 191 _ [vI 0] _ _ _ _ _
        exact wp_zreturn dX5_readRow_191 rfl ⟨rfl, rfl⟩ (by decide) ⟨rfl, (q3.2 c4)⟩
    ·
      refine wp_aload_n dX5_readRow_167 rfl rfl ?_
      refine wp_aload_n dX5_readRow_168 rfl rfl ?_
      refine wp_iconst dX5_readRow_169 (by decide) ?_
      refine wp_inlV (d' := d) (S := []) (as := [vR 1, vI 4]) dX5_readRow_170 lX5_89 (by omega) sh4 rfl rfl (Nat.le_of_ble_eq_true rfl) ⟨Nat.le_refl _, Nat.le_refl _⟩ (Mt.of2 (L := [some (vR 4), some (vR 1), some (vI 4)]) pnX5 rfl rfl ?_)
      refine wp_aload_n dX5_wrong_0 rfl rfl ?_
      refine wp_iload_n dX5_wrong_1 rfl rfl ?_
      refine wp_bipush dX5_wrong_2 (by decide) ?_
      refine wp_aload_n dX5_wrong_4 rfl rfl ?_
      refine wp_getI dX5_wrong_5 fX5_74 rfl sh1 (by decide) ?_
      refine wp_imul dX5_wrong_8 ?_
      refine wp_iadd dX5_wrong_9 ?_
      refine wp_putI dX5_wrong_10 fwX5_48 rfl sh4 (by decide) ?_
      refine wp_iconst dX5_wrong_13 (by decide) ?_
      refine wp_zreturn dX5_wrong_14 rfl ⟨rfl, rfl⟩ (by decide) ?_
      show Wp _ _ _ _ _ 173 _ [vI 0] _ _ _ _ _
      exact wp_zreturn dX5_readRow_173 rfl ⟨rfl, rfl⟩ (by decide) ⟨rfl, ((h.1 c1).2 c2)⟩
  ·
    refine wp_aload_n dX5_readRow_151 rfl rfl ?_
    refine wp_aload_n dX5_readRow_152 rfl rfl ?_
    refine wp_iconst dX5_readRow_153 (by decide) ?_
    refine wp_inlV (d' := d) (S := []) (as := [vR 1, vI 1]) dX5_readRow_154 lX5_89 (by omega) sh4 rfl rfl (Nat.le_of_ble_eq_true rfl) ⟨Nat.le_refl _, Nat.le_refl _⟩ (Mt.of2 (L := [some (vR 4), some (vR 1), some (vI 1)]) pnX5 rfl rfl ?_)
    refine wp_aload_n dX5_wrong_0 rfl rfl ?_
    refine wp_iload_n dX5_wrong_1 rfl rfl ?_
    refine wp_bipush dX5_wrong_2 (by decide) ?_
    refine wp_aload_n dX5_wrong_4 rfl rfl ?_
    refine wp_getI dX5_wrong_5 fX5_74 rfl sh1 (by decide) ?_
    refine wp_imul dX5_wrong_8 ?_
    refine wp_iadd dX5_wrong_9 ?_
    refine wp_putI dX5_wrong_10 fwX5_48 rfl sh4 (by decide) ?_
    refine wp_iconst dX5_wrong_13 (by decide) ?_
    refine wp_zreturn dX5_wrong_14 rfl ⟨rfl, rfl⟩ (by decide) ?_
    show Wp _ _ _ _ _ 157 _ [vI 0] _ _ _ _ _
    exact wp_zreturn dX5_readRow_157 rfl ⟨rfl, rfl⟩ (by decide) ⟨rfl, (h.2 c1)⟩
set_option maxHeartbeats 4000000 in
set_option maxRecDepth 10000 in
theorem sX5_readBraid {K : KK} {d : Nat} {V : Mem} {Q : Option AV → Mem → Prop}  (h : (((V 5 6) < 4 → Mf K d mX5_readNewName [vR 4, vR 1] V (fun r V2 => ∃ z2, r = some (vI z2) ∧ ((¬ z2 = 0 → (((0 : Int) ≤ (V2 5 6) ∧ (V2 5 6) < (8 : Nat)) ∧ Wf K (d + 1) mX5_readBraid 70 [some (vR 4), some (vR 1), some (vR (19 + 2 * Int.toNat (V2 5 6))), some (vI 0)] [] (upm (upm (upm V2 (19 + 2 * Int.toNat (V2 5 6)) 1 (V2 1 8)) (19 + 2 * Int.toNat (V2 5 6)) 3 ((upm V2 (19 + 2 * Int.toNat (V2 5 6)) 1 (V2 1 8)) 5 6)) (19 + 2 * Int.toNat (V2 5 6)) 2 0) Q)) ∧ (z2 = 0 → Q (some (vI 0)) V2)))) ∧ (¬ ((V 5 6) < 4) → Q (some (vI 0)) (upm V 4 8 (w32 (5 + (w32 (16 * (V 1 5))))))))) : Mf K (d + 1) mX5_readBraid [vR 4, vR 1] V Q := by
  refine Mt.of2 (L := [some (vR 4), some (vR 1), none, none]) pnX5 rfl rfl ?_
  refine wp_aload_n dX5_readBraid_0 rfl rfl ?_
  refine wp_getR (b := 5) dX5_readBraid_1 fX5_12 rfl sh4 (by decide) rfl ?_
  refine wp_getI dX5_readBraid_4 fX5_136 rfl sh5 (by decide) ?_
  refine wp_iconst dX5_readBraid_7 (by decide) ?_
  refine wp_icmp_lt (tgt := 18) dX5_readBraid_8 rfl (fun c1 => ?_) (fun c1 => ?_)
  ·
    refine wp_aload_n dX5_readBraid_18 rfl rfl ?_
    refine wp_aload_n dX5_readBraid_19 rfl rfl ?_
    refine wp_callV (S := []) (as := [vR 1]) dX5_readBraid_20 lX5_111 ((h.1 c1)) (by omega) sh4 rfl rfl (Nat.le_of_ble_eq_true rfl) ⟨Nat.le_refl _, Nat.le_refl _⟩ ?_
    rintro _ _ V2 ⟨rfl, z2, rfl, q2⟩
    show Wp _ _ _ _ _ 23 _ [vI z2] _ _ _ _ _
    refine wp_if_ne (tgt := 28) dX5_readBraid_23 rfl (fun c3 => ?_) (fun c3 => ?_)
    ·
      refine wp_aload_n dX5_readBraid_28 rfl rfl ?_
      refine wp_getR (b := 5) dX5_readBraid_29 fX5_12 rfl sh4 (by decide) rfl ?_
      refine wp_getR (b := 7) dX5_readBraid_32 fX5_139 rfl sh5 (by decide) rfl ?_
      refine wp_aload_n dX5_readBraid_35 rfl rfl ?_
      refine wp_getR (b := 5) dX5_readBraid_36 fX5_12 rfl sh4 (by decide) rfl ?_
      refine wp_getI dX5_readBraid_39 fX5_136 rfl sh5 (by decide) ?_
      have g4 : (0 : Int) ≤ (V2 5 6) ∧ (V2 5 6) < (8 : Nat) := (q2.1 c3).1
      refine wp_aald (b := (19 + 2 * Int.toNat (V2 5 6))) dX5_readBraid_42 sh7 (by decide) g4 (ap_get (b := 19) (s := 2) (n := 8) g4) ?_
      refine wp_astore_n dX5_readBraid_43 rfl (by decide) rfl ?_
      refine wp_aload_n dX5_readBraid_44 rfl rfl ?_
      refine wp_aload_n dX5_readBraid_45 rfl rfl ?_
      refine wp_getJ dX5_readBraid_46 fX5_97 rfl sh1 (by decide) ?_
      refine wp_putJ dX5_readBraid_49 fwX5_143 rfl (obj7 g4).1 (by decide) ?_
      refine wp_aload_n dX5_readBraid_52 rfl rfl ?_
      refine wp_aload_n dX5_readBraid_53 rfl rfl ?_
      refine wp_getR (b := 5) dX5_readBraid_54 fX5_12 rfl sh4 (by decide) rfl ?_
      refine wp_getI dX5_readBraid_57 fX5_136 rfl sh5 (by decide) ?_
      refine wp_putI dX5_readBraid_60 fwX5_146 rfl (obj7 g4).1 (by decide) ?_
      refine wp_aload_n dX5_readBraid_63 rfl rfl ?_
      refine wp_iconst dX5_readBraid_64 (by decide) ?_
      refine wp_putI dX5_readBraid_65 fwX5_149 rfl (obj7 g4).1 (by decide) ?_
      refine wp_iconst dX5_readBraid_68 (by decide) ?_
      refine wp_istore_n dX5_readBraid_69 rfl (by decide) rfl ?_
      exact (q2.1 c3).2
    ·
      refine wp_iconst dX5_readBraid_26 (by decide) ?_
      exact wp_zreturn dX5_readBraid_27 rfl ⟨rfl, rfl⟩ (by decide) ⟨rfl, (q2.2 c3)⟩
  ·
    refine wp_aload_n dX5_readBraid_11 rfl rfl ?_
    refine wp_aload_n dX5_readBraid_12 rfl rfl ?_
    refine wp_iconst dX5_readBraid_13 (by decide) ?_
    refine wp_inlV (d' := d) (S := []) (as := [vR 1, vI 5]) dX5_readBraid_14 lX5_89 (by omega) sh4 rfl rfl (Nat.le_of_ble_eq_true rfl) ⟨Nat.le_refl _, Nat.le_refl _⟩ (Mt.of2 (L := [some (vR 4), some (vR 1), some (vI 5)]) pnX5 rfl rfl ?_)
    refine wp_aload_n dX5_wrong_0 rfl rfl ?_
    refine wp_iload_n dX5_wrong_1 rfl rfl ?_
    refine wp_bipush dX5_wrong_2 (by decide) ?_
    refine wp_aload_n dX5_wrong_4 rfl rfl ?_
    refine wp_getI dX5_wrong_5 fX5_74 rfl sh1 (by decide) ?_
    refine wp_imul dX5_wrong_8 ?_
    refine wp_iadd dX5_wrong_9 ?_
    refine wp_putI dX5_wrong_10 fwX5_48 rfl sh4 (by decide) ?_
    refine wp_iconst dX5_wrong_13 (by decide) ?_
    refine wp_zreturn dX5_wrong_14 rfl ⟨rfl, rfl⟩ (by decide) ?_
    show Wp _ _ _ _ _ 17 _ [vI 0] _ _ _ _ _
    exact wp_zreturn dX5_readBraid_17 rfl ⟨rfl, rfl⟩ (by decide) ⟨rfl, (h.2 c1)⟩
set_option maxHeartbeats 4000000 in
set_option maxRecDepth 10000 in
theorem sX5_readBraid_70 {K : KK} {d : Nat} {V : Mem} {Q : Option AV → Mem → Prop} (a2 : Nat) (x3 : Int) (h2 : IsBraid a2) (h : ((10 < x3 → Q (some (vI 0)) V) ∧ (¬ (10 < x3) → Mf K d mX9_advance [vR 1] V (fun r V2 => r = none ∧ ((¬ (V2 1 7) = 59 → Wf K (d + 1) mX5_readBraid 131 [some (vR 4), some (vR 1), some (vR a2), some (vI x3)] [] V2 Q) ∧ ((V2 1 7) = 59 → (((V2 a2 2) ≤ 0 → Wf K (d + 1) mX5_readBraid 131 [some (vR 4), some (vR 1), some (vR a2), some (vI x3)] [] V2 Q) ∧ (¬ ((V2 a2 2) ≤ 0) → Mf K d mX0_isWhole [vR a2] (upm V2 5 6 (w32 ((V2 5 6) + 1))) (fun r V5 => ∃ z5, r = some (vI z5) ∧ ((¬ z5 = 0 → Wf K (d + 1) mX5_readBraid 125 [none, none, none, none] [] V5 Q) ∧ (z5 = 0 → Q (some (vI 0)) (upm V5 4 8 (w32 (5 + (w32 (16 * (V5 1 5))))))))))))))))) : Wf K (d + 1) mX5_readBraid 70 [some (vR 4), some (vR 1), some (vR a2), some (vI x3)] [] V Q := by
  refine wp_iload_n dX5_readBraid_70 rfl rfl ?_
  refine wp_bipush dX5_readBraid_71 (by decide) ?_
  refine wp_icmp_gt (tgt := 205) dX5_readBraid_73 rfl (fun c1 => ?_) (fun c1 => ?_)
  ·
    refine wp_iconst dX5_readBraid_205 (by decide) ?_
    exact wp_zreturn dX5_readBraid_206 rfl ⟨rfl, rfl⟩ (by decide) ⟨rfl, (h.1 c1)⟩
  ·
    refine wp_aload_n dX5_readBraid_76 rfl rfl ?_
    refine wp_callV (S := []) (as := []) dX5_readBraid_77 lX5_57 ((h.2 c1)) (by omega) sh1 rfl rfl (Nat.le_of_ble_eq_true rfl) ⟨Nat.le_refl _, Nat.le_refl _⟩ ?_
    rintro _ _ V2 ⟨rfl, rfl, q2⟩
    show Wp _ _ _ _ _ 80 _ [] _ _ _ _ _
    refine wp_aload_n dX5_readBraid_80 rfl rfl ?_
    refine wp_getI dX5_readBraid_81 fX5_77 rfl sh1 (by decide) ?_
    refine wp_bipush dX5_readBraid_84 (by decide) ?_
    refine wp_icmp_ne (tgt := 131) dX5_readBraid_86 rfl (fun c3 => ?_) (fun c3 => ?_)
    ·
      exact (q2.1 c3)
    ·
      refine wp_aload_n dX5_readBraid_89 rfl rfl ?_
      refine wp_getI dX5_readBraid_90 fX5_149 rfl h2.1 (by decide) ?_
      refine wp_if_le (tgt := 131) dX5_readBraid_93 rfl (fun c4 => ?_) (fun c4 => ?_)
      ·
        exact ((q2.2 c3).1 c4)
      ·
        refine wp_aload_n dX5_readBraid_96 rfl rfl ?_
        refine wp_getR (b := 5) dX5_readBraid_97 fX5_12 rfl sh4 (by decide) rfl ?_
        refine wp_dup dX5_readBraid_100 rfl ?_
        refine wp_getI dX5_readBraid_101 fX5_136 rfl sh5 (by decide) ?_
        refine wp_iconst dX5_readBraid_104 (by decide) ?_
        refine wp_iadd dX5_readBraid_105 ?_
        refine wp_putI dX5_readBraid_106 fwX5_136 rfl sh5 (by decide) ?_
        refine wp_aload_n dX5_readBraid_109 rfl rfl ?_
        refine wp_callV (S := []) (as := []) dX5_readBraid_110 lX5_152 (((q2.2 c3).2 c4)) (by omega) h2.1 rfl rfl (Nat.le_of_ble_eq_true rfl) ⟨Nat.le_refl _, Nat.le_refl _⟩ ?_
        rintro _ _ V5 ⟨rfl, z5, rfl, q5⟩
        show Wp _ _ _ _ _ 113 _ [vI z5] _ _ _ _ _
        refine wp_if_ne (tgt := 125) dX5_readBraid_113 rfl (fun c6 => ?_) (fun c6 => ?_)
        ·
          exact wp_loc (L2 := [none, none, none, none]) trivial (q5.1 c6)
        ·
          refine wp_aload_n dX5_readBraid_116 rfl rfl ?_
          refine wp_aload_n dX5_readBraid_117 rfl rfl ?_
          refine wp_iconst dX5_readBraid_118 (by decide) ?_
          refine wp_inlV (d' := d) (S := []) (as := [vR 1, vI 5]) dX5_readBraid_119 lX5_89 (by omega) sh4 rfl rfl (Nat.le_of_ble_eq_true rfl) ⟨Nat.le_refl _, Nat.le_refl _⟩ (Mt.of2 (L := [some (vR 4), some (vR 1), some (vI 5)]) pnX5 rfl rfl ?_)
          refine wp_aload_n dX5_wrong_0 rfl rfl ?_
          refine wp_iload_n dX5_wrong_1 rfl rfl ?_
          refine wp_bipush dX5_wrong_2 (by decide) ?_
          refine wp_aload_n dX5_wrong_4 rfl rfl ?_
          refine wp_getI dX5_wrong_5 fX5_74 rfl sh1 (by decide) ?_
          refine wp_imul dX5_wrong_8 ?_
          refine wp_iadd dX5_wrong_9 ?_
          refine wp_putI dX5_wrong_10 fwX5_48 rfl sh4 (by decide) ?_
          refine wp_iconst dX5_wrong_13 (by decide) ?_
          refine wp_zreturn dX5_wrong_14 rfl ⟨rfl, rfl⟩ (by decide) ?_
          show Wp _ _ _ _ _ 122 _ [vI 0] _ _ _ _ _
          refine wp_if_eq (tgt := 129) dX5_readBraid_122 rfl (fun c7 => ?_) (fun c7 => False.elim (by revert c7; decide))
          refine wp_iconst dX5_readBraid_129 (by decide) ?_
          exact wp_zreturn dX5_readBraid_130 rfl ⟨rfl, rfl⟩ (by decide) ⟨rfl, (q5.2 c6)⟩
set_option maxHeartbeats 4000000 in
set_option maxRecDepth 10000 in
theorem sX5_readBraid_131 {K : KK} {d : Nat} {V : Mem} {Q : Option AV → Mem → Prop} (a2 : Nat) (x3 : Int) (h2 : IsBraid a2) (h : (((V 1 4) = 3 → Mf K d mX0_strandAt [vR a2, vI (V 1 6)] V (fun r V2 => ∃ z2, r = some (vI z2) ∧ ((z2 = (-1) → (((V2 1 6) < 10 → Mf K d mX0_addStrand [vR a2, vI (V2 1 6)] V2 (fun r V5 => ∃ z5, r = some (vI z5) ∧ ((¬ z5 = 0 → Wf K (d + 1) mX5_readBraid 70 [some (vR 4), some (vR 1), some (vR a2), some (vI (w32 (x3 + 1)))] [] V5 Q) ∧ (z5 = 0 → Q (some (vI 0)) (upm V5 4 8 (w32 (5 + (w32 (16 * (V5 1 5)))))))))) ∧ (¬ ((V2 1 6) < 10) → Q (some (vI 0)) (upm V2 4 8 (w32 (4 + (w32 (16 * (V2 1 5))))))))) ∧ (¬ (z2 = (-1)) → Q (some (vI 0)) (upm V2 4 8 (w32 (3 + (w32 (16 * (V2 1 5)))))))))) ∧ (¬ ((V 1 4) = 3) → Q (some (vI 0)) (upm V 4 8 (w32 (1 + (w32 (16 * (V 1 5))))))))) : Wf K (d + 1) mX5_readBraid 131 [some (vR 4), some (vR 1), some (vR a2), some (vI x3)] [] V Q := by
  refine wp_aload_n dX5_readBraid_131 rfl rfl ?_
  refine wp_getI dX5_readBraid_132 fX5_60 rfl sh1 (by decide) ?_
  refine wp_iconst dX5_readBraid_135 (by decide) ?_
  refine wp_icmp_eq (tgt := 146) dX5_readBraid_136 rfl (fun c1 => ?_) (fun c1 => ?_)
  ·
    refine wp_aload_n dX5_readBraid_146 rfl rfl ?_
    refine wp_aload_n dX5_readBraid_147 rfl rfl ?_
    refine wp_getI dX5_readBraid_148 fX5_129 rfl sh1 (by decide) ?_
    refine wp_callV (S := []) (as := [vI (V 1 6)]) dX5_readBraid_151 lX5_155 ((h.1 c1)) (by omega) h2.1 rfl rfl (Nat.le_of_ble_eq_true rfl) ⟨Nat.le_refl _, Nat.le_refl _⟩ ?_
    rintro _ _ V2 ⟨rfl, z2, rfl, q2⟩
    show Wp _ _ _ _ _ 154 _ [vI z2] _ _ _ _ _
    refine wp_iconst dX5_readBraid_154 (by decide) ?_
    refine wp_icmp_eq (tgt := 165) dX5_readBraid_155 rfl (fun c3 => ?_) (fun c3 => ?_)
    ·
      refine wp_aload_n dX5_readBraid_165 rfl rfl ?_
      refine wp_getI dX5_readBraid_166 fX5_129 rfl sh1 (by decide) ?_
      refine wp_bipush dX5_readBraid_169 (by decide) ?_
      refine wp_icmp_lt (tgt := 181) dX5_readBraid_171 rfl (fun c4 => ?_) (fun c4 => ?_)
      ·
        refine wp_aload_n dX5_readBraid_181 rfl rfl ?_
        refine wp_aload_n dX5_readBraid_182 rfl rfl ?_
        refine wp_getI dX5_readBraid_183 fX5_129 rfl sh1 (by decide) ?_
        refine wp_callV (S := []) (as := [vI (V2 1 6)]) dX5_readBraid_186 lX5_159 (((q2.1 c3).1 c4)) (by omega) h2.1 rfl rfl (Nat.le_of_ble_eq_true rfl) ⟨Nat.le_refl _, Nat.le_refl _⟩ ?_
        rintro _ _ V5 ⟨rfl, z5, rfl, q5⟩
        show Wp _ _ _ _ _ 189 _ [vI z5] _ _ _ _ _
        refine wp_if_ne (tgt := 199) dX5_readBraid_189 rfl (fun c6 => ?_) (fun c6 => ?_)
        ·
          refine wp_iinc dX5_readBraid_199 rfl rfl ?_
          refine wp_goto (tgt := 70) dX5_readBraid_202 rfl ?_
          exact (q5.1 c6)
        ·
          refine wp_aload_n dX5_readBraid_192 rfl rfl ?_
          refine wp_aload_n dX5_readBraid_193 rfl rfl ?_
          refine wp_iconst dX5_readBraid_194 (by decide) ?_
          refine wp_inlV (d' := d) (S := []) (as := [vR 1, vI 5]) dX5_readBraid_195 lX5_89 (by omega) sh4 rfl rfl (Nat.le_of_ble_eq_true rfl) ⟨Nat.le_refl _, Nat.le_refl _⟩ (Mt.of2 (L := [some (vR 4), some (vR 1), some (vI 5)]) pnX5 rfl rfl ?_)
          refine wp_aload_n dX5_wrong_0 rfl rfl ?_
          refine wp_iload_n dX5_wrong_1 rfl rfl ?_
          refine wp_bipush dX5_wrong_2 (by decide) ?_
          refine wp_aload_n dX5_wrong_4 rfl rfl ?_
          refine wp_getI dX5_wrong_5 fX5_74 rfl sh1 (by decide) ?_
          refine wp_imul dX5_wrong_8 ?_
          refine wp_iadd dX5_wrong_9 ?_
          refine wp_putI dX5_wrong_10 fwX5_48 rfl sh4 (by decide) ?_
          refine wp_iconst dX5_wrong_13 (by decide) ?_
          refine wp_zreturn dX5_wrong_14 rfl ⟨rfl, rfl⟩ (by decide) ?_
          show Wp _ _ _ _ _ 198 _ [vI 0] _ _ _ _ _
          exact wp_zreturn dX5_readBraid_198 rfl ⟨rfl, rfl⟩ (by decide) ⟨rfl, (q5.2 c6)⟩
      ·
        refine wp_aload_n dX5_readBraid_174 rfl rfl ?_
        refine wp_aload_n dX5_readBraid_175 rfl rfl ?_
        refine wp_iconst dX5_readBraid_176 (by decide) ?_
        refine wp_inlV (d' := d) (S := []) (as := [vR 1, vI 4]) dX5_readBraid_177 lX5_89 (by omega) sh4 rfl rfl (Nat.le_of_ble_eq_true rfl) ⟨Nat.le_refl _, Nat.le_refl _⟩ (Mt.of2 (L := [some (vR 4), some (vR 1), some (vI 4)]) pnX5 rfl rfl ?_)
        refine wp_aload_n dX5_wrong_0 rfl rfl ?_
        refine wp_iload_n dX5_wrong_1 rfl rfl ?_
        refine wp_bipush dX5_wrong_2 (by decide) ?_
        refine wp_aload_n dX5_wrong_4 rfl rfl ?_
        refine wp_getI dX5_wrong_5 fX5_74 rfl sh1 (by decide) ?_
        refine wp_imul dX5_wrong_8 ?_
        refine wp_iadd dX5_wrong_9 ?_
        refine wp_putI dX5_wrong_10 fwX5_48 rfl sh4 (by decide) ?_
        refine wp_iconst dX5_wrong_13 (by decide) ?_
        refine wp_zreturn dX5_wrong_14 rfl ⟨rfl, rfl⟩ (by decide) ?_
        show Wp _ _ _ _ _ 180 _ [vI 0] _ _ _ _ _
        exact wp_zreturn dX5_readBraid_180 rfl ⟨rfl, rfl⟩ (by decide) ⟨rfl, ((q2.1 c3).2 c4)⟩
    ·
      refine wp_aload_n dX5_readBraid_158 rfl rfl ?_
      refine wp_aload_n dX5_readBraid_159 rfl rfl ?_
      refine wp_iconst dX5_readBraid_160 (by decide) ?_
      refine wp_inlV (d' := d) (S := []) (as := [vR 1, vI 3]) dX5_readBraid_161 lX5_89 (by omega) sh4 rfl rfl (Nat.le_of_ble_eq_true rfl) ⟨Nat.le_refl _, Nat.le_refl _⟩ (Mt.of2 (L := [some (vR 4), some (vR 1), some (vI 3)]) pnX5 rfl rfl ?_)
      refine wp_aload_n dX5_wrong_0 rfl rfl ?_
      refine wp_iload_n dX5_wrong_1 rfl rfl ?_
      refine wp_bipush dX5_wrong_2 (by decide) ?_
      refine wp_aload_n dX5_wrong_4 rfl rfl ?_
      refine wp_getI dX5_wrong_5 fX5_74 rfl sh1 (by decide) ?_
      refine wp_imul dX5_wrong_8 ?_
      refine wp_iadd dX5_wrong_9 ?_
      refine wp_putI dX5_wrong_10 fwX5_48 rfl sh4 (by decide) ?_
      refine wp_iconst dX5_wrong_13 (by decide) ?_
      refine wp_zreturn dX5_wrong_14 rfl ⟨rfl, rfl⟩ (by decide) ?_
      show Wp _ _ _ _ _ 164 _ [vI 0] _ _ _ _ _
      exact wp_zreturn dX5_readBraid_164 rfl ⟨rfl, rfl⟩ (by decide) ⟨rfl, (q2.2 c3)⟩
  ·
    refine wp_aload_n dX5_readBraid_139 rfl rfl ?_
    refine wp_aload_n dX5_readBraid_140 rfl rfl ?_
    refine wp_iconst dX5_readBraid_141 (by decide) ?_
    refine wp_inlV (d' := d) (S := []) (as := [vR 1, vI 1]) dX5_readBraid_142 lX5_89 (by omega) sh4 rfl rfl (Nat.le_of_ble_eq_true rfl) ⟨Nat.le_refl _, Nat.le_refl _⟩ (Mt.of2 (L := [some (vR 4), some (vR 1), some (vI 1)]) pnX5 rfl rfl ?_)
    refine wp_aload_n dX5_wrong_0 rfl rfl ?_
    refine wp_iload_n dX5_wrong_1 rfl rfl ?_
    refine wp_bipush dX5_wrong_2 (by decide) ?_
    refine wp_aload_n dX5_wrong_4 rfl rfl ?_
    refine wp_getI dX5_wrong_5 fX5_74 rfl sh1 (by decide) ?_
    refine wp_imul dX5_wrong_8 ?_
    refine wp_iadd dX5_wrong_9 ?_
    refine wp_putI dX5_wrong_10 fwX5_48 rfl sh4 (by decide) ?_
    refine wp_iconst dX5_wrong_13 (by decide) ?_
    refine wp_zreturn dX5_wrong_14 rfl ⟨rfl, rfl⟩ (by decide) ?_
    show Wp _ _ _ _ _ 145 _ [vI 0] _ _ _ _ _
    exact wp_zreturn dX5_readBraid_145 rfl ⟨rfl, rfl⟩ (by decide) ⟨rfl, (h.2 c1)⟩
set_option maxHeartbeats 4000000 in
set_option maxRecDepth 10000 in
theorem sX5_readBraid_125 {K : KK} {d : Nat} {V : Mem} {Q : Option AV → Mem → Prop}  (h : Q (some (vI 1)) V) : Wf K (d + 1) mX5_readBraid 125 [none, none, none, none] [] V Q := by
  refine wp_iconst dX5_readBraid_125 (by decide) ?_
  refine wp_goto (tgt := 130) dX5_readBraid_126 rfl ?_
  exact wp_zreturn dX5_readBraid_130 rfl ⟨rfl, rfl⟩ (by decide) ⟨rfl, h⟩
set_option maxHeartbeats 4000000 in
set_option maxRecDepth 10000 in
theorem sX5_readLine {K : KK} {d : Nat} {V : Mem} {Q : Option AV → Mem → Prop} (a2 : Nat) (h2 : IsStore a2) (h : (((V 1 7) < 131 → Wf K (d + 1) mX5_readLine 19 [some (vR 4), some (vR 1), none, none, none] [] V Q) ∧ (¬ ((V 1 7) < 131) → (((V 1 7) ≤ 135 → (((V 38 3) < 30 → ((134 ≤ (V 1 7) → Wf K (d + 1) mX5_readLine 60 [some (vR 4), some (vR 1), some (vR a2), some (vI (V 1 7)), none] [vI 0, vR a2, vR 1, vR 4] V Q) ∧ (¬ (134 ≤ (V 1 7)) → Wf K (d + 1) mX5_readLine 60 [some (vR 4), some (vR 1), some (vR a2), some (vI (V 1 7)), none] [vI 1, vR a2, vR 1, vR 4] V Q))) ∧ (¬ ((V 38 3) < 30) → Q (some (vI 0)) (upm V 4 8 (w32 (5 + (w32 (16 * (V 1 5))))))))) ∧ (¬ ((V 1 7) ≤ 135) → Wf K (d + 1) mX5_readLine 19 [some (vR 4), some (vR 1), none, none, none] [] V Q))))) : Mf K (d + 1) mX5_readLine [vR 4, vR 1, vR a2] V Q := by
  refine Mt.of2 (L := [some (vR 4), some (vR 1), some (vR a2), none, none]) pnX5 rfl rfl ?_
  refine wp_aload_n dX5_readLine_0 rfl rfl ?_
  refine wp_getI dX5_readLine_1 fX5_77 rfl sh1 (by decide) ?_
  refine wp_istore_n dX5_readLine_4 rfl (by decide) rfl ?_
  refine wp_iload_n dX5_readLine_5 rfl rfl ?_
  refine wp_sipush dX5_readLine_6 (by decide) ?_
  refine wp_icmp_lt (tgt := 19) dX5_readLine_9 rfl (fun c1 => ?_) (fun c1 => ?_)
  ·
    exact wp_loc (L2 := [some (vR 4), some (vR 1), none, none, none]) ⟨rfl, ⟨rfl, trivial⟩⟩ (h.1 c1)
  ·
    refine wp_iload_n dX5_readLine_12 rfl rfl ?_
    refine wp_sipush dX5_readLine_13 (by decide) ?_
    refine wp_icmp_le (tgt := 26) dX5_readLine_16 rfl (fun c2 => ?_) (fun c2 => ?_)
    ·
      refine wp_aload_n dX5_readLine_26 rfl rfl ?_
      refine wp_getR (b := 38) dX5_readLine_27 fX5_30 rfl sh4 (by decide) rfl ?_
      refine wp_getI dX5_readLine_30 fX5_67 rfl sh38 (by decide) ?_
      refine wp_bipush dX5_readLine_33 (by decide) ?_
      refine wp_icmp_lt (tgt := 45) dX5_readLine_35 rfl (fun c3 => ?_) (fun c3 => ?_)
      ·
        refine wp_aload_n dX5_readLine_45 rfl rfl ?_
        refine wp_aload_n dX5_readLine_46 rfl rfl ?_
        refine wp_aload_n dX5_readLine_47 rfl rfl ?_
        refine wp_iload_n dX5_readLine_48 rfl rfl ?_
        refine wp_sipush dX5_readLine_49 (by decide) ?_
        refine wp_icmp_ge (tgt := 59) dX5_readLine_52 rfl (fun c4 => ?_) (fun c4 => ?_)
        ·
          refine wp_iconst dX5_readLine_59 (by decide) ?_
          exact ((((h.2 c1).1 c2).1 c3).1 c4)
        ·
          refine wp_iconst dX5_readLine_55 (by decide) ?_
          refine wp_goto (tgt := 60) dX5_readLine_56 rfl ?_
          exact ((((h.2 c1).1 c2).1 c3).2 c4)
      ·
        refine wp_aload_n dX5_readLine_38 rfl rfl ?_
        refine wp_aload_n dX5_readLine_39 rfl rfl ?_
        refine wp_iconst dX5_readLine_40 (by decide) ?_
        refine wp_inlV (d' := d) (S := []) (as := [vR 1, vI 5]) dX5_readLine_41 lX5_89 (by omega) sh4 rfl rfl (Nat.le_of_ble_eq_true rfl) ⟨Nat.le_refl _, Nat.le_refl _⟩ (Mt.of2 (L := [some (vR 4), some (vR 1), some (vI 5)]) pnX5 rfl rfl ?_)
        refine wp_aload_n dX5_wrong_0 rfl rfl ?_
        refine wp_iload_n dX5_wrong_1 rfl rfl ?_
        refine wp_bipush dX5_wrong_2 (by decide) ?_
        refine wp_aload_n dX5_wrong_4 rfl rfl ?_
        refine wp_getI dX5_wrong_5 fX5_74 rfl sh1 (by decide) ?_
        refine wp_imul dX5_wrong_8 ?_
        refine wp_iadd dX5_wrong_9 ?_
        refine wp_putI dX5_wrong_10 fwX5_48 rfl sh4 (by decide) ?_
        refine wp_iconst dX5_wrong_13 (by decide) ?_
        refine wp_zreturn dX5_wrong_14 rfl ⟨rfl, rfl⟩ (by decide) ?_
        show Wp _ _ _ _ _ 44 _ [vI 0] _ _ _ _ _
        exact wp_zreturn dX5_readLine_44 rfl ⟨rfl, rfl⟩ (by decide) ⟨rfl, (((h.2 c1).1 c2).2 c3)⟩
    ·
      exact wp_loc (L2 := [some (vR 4), some (vR 1), none, none, none]) ⟨rfl, ⟨rfl, trivial⟩⟩ ((h.2 c1).2 c2)
set_option maxHeartbeats 4000000 in
set_option maxRecDepth 10000 in
theorem sX5_readLine_19 {K : KK} {d : Nat} {V : Mem} {Q : Option AV → Mem → Prop} (a2 : Nat) (h2 : IsStore a2) (h : Q (some (vI 0)) (upm V 4 8 (w32 (1 + (w32 (16 * (V 1 5))))))) : Wf K (d + 1) mX5_readLine 19 [some (vR 4), some (vR 1), none, none, none] [] V Q := by
  refine wp_aload_n dX5_readLine_19 rfl rfl ?_
  refine wp_aload_n dX5_readLine_20 rfl rfl ?_
  refine wp_iconst dX5_readLine_21 (by decide) ?_
  refine wp_inlV (d' := d) (S := []) (as := [vR 1, vI 1]) dX5_readLine_22 lX5_89 (by omega) sh4 rfl rfl (Nat.le_of_ble_eq_true rfl) ⟨Nat.le_refl _, Nat.le_refl _⟩ (Mt.of2 (L := [some (vR 4), some (vR 1), some (vI 1)]) pnX5 rfl rfl ?_)
  refine wp_aload_n dX5_wrong_0 rfl rfl ?_
  refine wp_iload_n dX5_wrong_1 rfl rfl ?_
  refine wp_bipush dX5_wrong_2 (by decide) ?_
  refine wp_aload_n dX5_wrong_4 rfl rfl ?_
  refine wp_getI dX5_wrong_5 fX5_74 rfl sh1 (by decide) ?_
  refine wp_imul dX5_wrong_8 ?_
  refine wp_iadd dX5_wrong_9 ?_
  refine wp_putI dX5_wrong_10 fwX5_48 rfl sh4 (by decide) ?_
  refine wp_iconst dX5_wrong_13 (by decide) ?_
  refine wp_zreturn dX5_wrong_14 rfl ⟨rfl, rfl⟩ (by decide) ?_
  show Wp _ _ _ _ _ 25 _ [vI 0] _ _ _ _ _
  exact wp_zreturn dX5_readLine_25 rfl ⟨rfl, rfl⟩ (by decide) ⟨rfl, h⟩
set_option maxHeartbeats 4000000 in
set_option maxRecDepth 10000 in
theorem sX5_readLine_60 {K : KK} {d : Nat} {V : Mem} {Q : Option AV → Mem → Prop} (a2 : Nat) (x3 : Int) (s3 : Int) (h2 : IsStore a2) (h : Mf K d mX5_readToldName [vR 4, vR 1, vR a2, vI s3] V (fun r V1 => ∃ z1, r = some (vI z1) ∧ ((¬ z1 = 0 → ((¬ x3 = 131 → Wf K (d + 1) mX5_readLine 98 [some (vR 4), some (vR 1), some (vR a2), some (vI x3), some (vI (V1 4 9))] [] (upm V1 4 9 0) Q) ∧ (x3 = 131 → Mf K d mX5_readNumber [vR 4, vR 1, vI 99] (upm V1 4 9 0) (fun r V4 => ∃ z4, r = some (vI z4) ∧ ((¬ z4 = 0 → Wf K (d + 1) mX5_readLine 98 [some (vR 4), some (vR 1), some (vR a2), some (vI x3), some (vI (V1 4 9))] [] V4 Q) ∧ (z4 = 0 → Q (some (vI 0)) V4)))))) ∧ (z1 = 0 → Q (some (vI 0)) V1)))) : Wf K (d + 1) mX5_readLine 60 [some (vR 4), some (vR 1), some (vR a2), some (vI x3), none] [vI s3, vR a2, vR 1, vR 4] V Q := by
  refine wp_callV (S := []) (as := [vR 1, vR a2, vI s3]) dX5_readLine_60 lX5_162 (h) (by omega) sh4 rfl rfl (Nat.le_of_ble_eq_true rfl) ⟨Nat.le_refl _, Nat.le_refl _⟩ ?_
  rintro _ _ V1 ⟨rfl, z1, rfl, q1⟩
  show Wp _ _ _ _ _ 63 _ [vI z1] _ _ _ _ _
  refine wp_if_ne (tgt := 68) dX5_readLine_63 rfl (fun c2 => ?_) (fun c2 => ?_)
  ·
    refine wp_aload_n dX5_readLine_68 rfl rfl ?_
    refine wp_getI dX5_readLine_69 fX5_166 rfl sh4 (by decide) ?_
    refine wp_istore dX5_readLine_72 (by decide) rfl ?_
    refine wp_aload_n dX5_readLine_74 rfl rfl ?_
    refine wp_iconst dX5_readLine_75 (by decide) ?_
    refine wp_putI dX5_readLine_76 fwX5_166 rfl sh4 (by decide) ?_
    refine wp_iload_n dX5_readLine_79 rfl rfl ?_
    refine wp_sipush dX5_readLine_80 (by decide) ?_
    refine wp_icmp_ne (tgt := 98) dX5_readLine_83 rfl (fun c3 => ?_) (fun c3 => ?_)
    ·
      exact ((q1.1 c2).1 c3)
    ·
      refine wp_aload_n dX5_readLine_86 rfl rfl ?_
      refine wp_aload_n dX5_readLine_87 rfl rfl ?_
      refine wp_bipush dX5_readLine_88 (by decide) ?_
      refine wp_callV (S := []) (as := [vR 1, vI 99]) dX5_readLine_90 lX5_169 (((q1.1 c2).2 c3)) (by omega) sh4 rfl rfl (Nat.le_of_ble_eq_true rfl) ⟨Nat.le_refl _, Nat.le_refl _⟩ ?_
      rintro _ _ V4 ⟨rfl, z4, rfl, q4⟩
      show Wp _ _ _ _ _ 93 _ [vI z4] _ _ _ _ _
      refine wp_if_ne (tgt := 98) dX5_readLine_93 rfl (fun c5 => ?_) (fun c5 => ?_)
      ·
        exact (q4.1 c5)
      ·
        refine wp_iconst dX5_readLine_96 (by decide) ?_
        exact wp_zreturn dX5_readLine_97 rfl ⟨rfl, rfl⟩ (by decide) ⟨rfl, (q4.2 c5)⟩
  ·
    refine wp_iconst dX5_readLine_66 (by decide) ?_
    exact wp_zreturn dX5_readLine_67 rfl ⟨rfl, rfl⟩ (by decide) ⟨rfl, (q1.2 c2)⟩
set_option maxHeartbeats 4000000 in
set_option maxRecDepth 10000 in
theorem sX5_readLine_98 {K : KK} {d : Nat} {V : Mem} {Q : Option AV → Mem → Prop} (a2 : Nat) (x3 : Int) (x4 : Int) (h2 : IsStore a2) (h : ((¬ x3 = 134 → Wf K (d + 1) mX5_readLine 117 [some (vR 4), some (vR 1), some (vR a2), some (vI x3), some (vI x4)] [] V Q) ∧ (x3 = 134 → Mf K d mX5_readNumber [vR 4, vR 1, vI 8] V (fun r V2 => ∃ z2, r = some (vI z2) ∧ ((¬ z2 = 0 → Wf K (d + 1) mX5_readLine 117 [some (vR 4), some (vR 1), some (vR a2), some (vI x3), some (vI x4)] [] V2 Q) ∧ (z2 = 0 → Q (some (vI 0)) V2)))))) : Wf K (d + 1) mX5_readLine 98 [some (vR 4), some (vR 1), some (vR a2), some (vI x3), some (vI x4)] [] V Q := by
  refine wp_iload_n dX5_readLine_98 rfl rfl ?_
  refine wp_sipush dX5_readLine_99 (by decide) ?_
  refine wp_icmp_ne (tgt := 117) dX5_readLine_102 rfl (fun c1 => ?_) (fun c1 => ?_)
  ·
    exact (h.1 c1)
  ·
    refine wp_aload_n dX5_readLine_105 rfl rfl ?_
    refine wp_aload_n dX5_readLine_106 rfl rfl ?_
    refine wp_bipush dX5_readLine_107 (by decide) ?_
    refine wp_callV (S := []) (as := [vR 1, vI 8]) dX5_readLine_109 lX5_169 ((h.2 c1)) (by omega) sh4 rfl rfl (Nat.le_of_ble_eq_true rfl) ⟨Nat.le_refl _, Nat.le_refl _⟩ ?_
    rintro _ _ V2 ⟨rfl, z2, rfl, q2⟩
    show Wp _ _ _ _ _ 112 _ [vI z2] _ _ _ _ _
    refine wp_if_ne (tgt := 117) dX5_readLine_112 rfl (fun c3 => ?_) (fun c3 => ?_)
    ·
      exact (q2.1 c3)
    ·
      refine wp_iconst dX5_readLine_115 (by decide) ?_
      exact wp_zreturn dX5_readLine_116 rfl ⟨rfl, rfl⟩ (by decide) ⟨rfl, (q2.2 c3)⟩
set_option maxHeartbeats 4000000 in
set_option maxRecDepth 10000 in
theorem sX5_readLine_117 {K : KK} {d : Nat} {V : Mem} {Q : Option AV → Mem → Prop} (a2 : Nat) (x3 : Int) (x4 : Int) (h2 : IsStore a2) (h : ((¬ x3 = 135 → Wf K (d + 1) mX5_readLine 136 [some (vR 4), some (vR 1), none, some (vI x3), some (vI x4)] [] V Q) ∧ (x3 = 135 → Mf K d mX5_readToldName [vR 4, vR 1, vR a2, vI 0] V (fun r V2 => ∃ z2, r = some (vI z2) ∧ ((¬ z2 = 0 → Wf K (d + 1) mX5_readLine 136 [some (vR 4), some (vR 1), none, some (vI x3), some (vI x4)] [] V2 Q) ∧ (z2 = 0 → Q (some (vI 0)) V2)))))) : Wf K (d + 1) mX5_readLine 117 [some (vR 4), some (vR 1), some (vR a2), some (vI x3), some (vI x4)] [] V Q := by
  refine wp_iload_n dX5_readLine_117 rfl rfl ?_
  refine wp_sipush dX5_readLine_118 (by decide) ?_
  refine wp_icmp_ne (tgt := 136) dX5_readLine_121 rfl (fun c1 => ?_) (fun c1 => ?_)
  ·
    exact wp_loc (L2 := [some (vR 4), some (vR 1), none, some (vI x3), some (vI x4)]) ⟨rfl, ⟨rfl, ⟨rfl, ⟨rfl, trivial⟩⟩⟩⟩ (h.1 c1)
  ·
    refine wp_aload_n dX5_readLine_124 rfl rfl ?_
    refine wp_aload_n dX5_readLine_125 rfl rfl ?_
    refine wp_aload_n dX5_readLine_126 rfl rfl ?_
    refine wp_iconst dX5_readLine_127 (by decide) ?_
    refine wp_callV (S := []) (as := [vR 1, vR a2, vI 0]) dX5_readLine_128 lX5_162 ((h.2 c1)) (by omega) sh4 rfl rfl (Nat.le_of_ble_eq_true rfl) ⟨Nat.le_refl _, Nat.le_refl _⟩ ?_
    rintro _ _ V2 ⟨rfl, z2, rfl, q2⟩
    show Wp _ _ _ _ _ 131 _ [vI z2] _ _ _ _ _
    refine wp_if_ne (tgt := 136) dX5_readLine_131 rfl (fun c3 => ?_) (fun c3 => ?_)
    ·
      exact wp_loc (L2 := [some (vR 4), some (vR 1), none, some (vI x3), some (vI x4)]) ⟨rfl, ⟨rfl, ⟨rfl, ⟨rfl, trivial⟩⟩⟩⟩ (q2.1 c3)
    ·
      refine wp_iconst dX5_readLine_134 (by decide) ?_
      exact wp_zreturn dX5_readLine_135 rfl ⟨rfl, rfl⟩ (by decide) ⟨rfl, (q2.2 c3)⟩
set_option maxHeartbeats 4000000 in
set_option maxRecDepth 10000 in
theorem sX5_readLine_136 {K : KK} {d : Nat} {V : Mem} {Q : Option AV → Mem → Prop} (a2 : Nat) (x3 : Int) (x4 : Int) (h2 : IsStore a2) (h : Mf K d mX9_advance [vR 1] V (fun r V1 => r = none ∧ (((V1 1 7) = 59 → Mf K d mX3_add [vR 38, vI x3, vI x4, vI (V1 4 9)] V1 (fun r V3 => r = none ∧ Q (some (vI 1)) V3)) ∧ (¬ ((V1 1 7) = 59) → Q (some (vI 0)) (upm V1 4 8 (w32 (1 + (w32 (16 * (V1 1 5)))))))))) : Wf K (d + 1) mX5_readLine 136 [some (vR 4), some (vR 1), none, some (vI x3), some (vI x4)] [] V Q := by
  refine wp_aload_n dX5_readLine_136 rfl rfl ?_
  refine wp_callV (S := []) (as := []) dX5_readLine_137 lX5_57 (h) (by omega) sh1 rfl rfl (Nat.le_of_ble_eq_true rfl) ⟨Nat.le_refl _, Nat.le_refl _⟩ ?_
  rintro _ _ V1 ⟨rfl, rfl, q1⟩
  show Wp _ _ _ _ _ 140 _ [] _ _ _ _ _
  refine wp_aload_n dX5_readLine_140 rfl rfl ?_
  refine wp_getI dX5_readLine_141 fX5_77 rfl sh1 (by decide) ?_
  refine wp_bipush dX5_readLine_144 (by decide) ?_
  refine wp_icmp_eq (tgt := 156) dX5_readLine_146 rfl (fun c2 => ?_) (fun c2 => ?_)
  ·
    refine wp_aload_n dX5_readLine_156 rfl rfl ?_
    refine wp_getR (b := 38) dX5_readLine_157 fX5_30 rfl sh4 (by decide) rfl ?_
    refine wp_iload_n dX5_readLine_160 rfl rfl ?_
    refine wp_iload dX5_readLine_161 rfl ?_
    refine wp_aload_n dX5_readLine_163 rfl rfl ?_
    refine wp_getI dX5_readLine_164 fX5_166 rfl sh4 (by decide) ?_
    refine wp_callV (S := []) (as := [vI x3, vI x4, vI (V1 4 9)]) dX5_readLine_167 lX5_172 ((q1.1 c2)) (by omega) sh38 rfl rfl (Nat.le_of_ble_eq_true rfl) ⟨Nat.le_refl _, Nat.le_refl _⟩ ?_
    rintro _ _ V3 ⟨rfl, rfl, q3⟩
    show Wp _ _ _ _ _ 170 _ [] _ _ _ _ _
    refine wp_iconst dX5_readLine_170 (by decide) ?_
    exact wp_zreturn dX5_readLine_171 rfl ⟨rfl, rfl⟩ (by decide) ⟨rfl, q3⟩
  ·
    refine wp_aload_n dX5_readLine_149 rfl rfl ?_
    refine wp_aload_n dX5_readLine_150 rfl rfl ?_
    refine wp_iconst dX5_readLine_151 (by decide) ?_
    refine wp_inlV (d' := d) (S := []) (as := [vR 1, vI 1]) dX5_readLine_152 lX5_89 (by omega) sh4 rfl rfl (Nat.le_of_ble_eq_true rfl) ⟨Nat.le_refl _, Nat.le_refl _⟩ (Mt.of2 (L := [some (vR 4), some (vR 1), some (vI 1)]) pnX5 rfl rfl ?_)
    refine wp_aload_n dX5_wrong_0 rfl rfl ?_
    refine wp_iload_n dX5_wrong_1 rfl rfl ?_
    refine wp_bipush dX5_wrong_2 (by decide) ?_
    refine wp_aload_n dX5_wrong_4 rfl rfl ?_
    refine wp_getI dX5_wrong_5 fX5_74 rfl sh1 (by decide) ?_
    refine wp_imul dX5_wrong_8 ?_
    refine wp_iadd dX5_wrong_9 ?_
    refine wp_putI dX5_wrong_10 fwX5_48 rfl sh4 (by decide) ?_
    refine wp_iconst dX5_wrong_13 (by decide) ?_
    refine wp_zreturn dX5_wrong_14 rfl ⟨rfl, rfl⟩ (by decide) ?_
    show Wp _ _ _ _ _ 155 _ [vI 0] _ _ _ _ _
    exact wp_zreturn dX5_readLine_155 rfl ⟨rfl, rfl⟩ (by decide) ⟨rfl, (q1.2 c2)⟩
set_option maxHeartbeats 4000000 in
set_option maxRecDepth 10000 in
theorem sX5_readToldName {K : KK} {d : Nat} {V : Mem} {Q : Option AV → Mem → Prop} (a2 : Nat) (x3 : Int) (h2 : IsStore a2) (h : Mf K d mX9_advance [vR 1] V (fun r V1 => r = none ∧ Mf K d mX9_isName [vR 1] V1 (fun r V2 => ∃ z2, r = some (vI z2) ∧ ((¬ z2 = 0 → ((x3 = 0 → Mf K d mX7_braidNamed [vR a2, vJ (V2 1 8)] V2 (fun r V5 => ∃ z5, r = some (vI z5) ∧ ((¬ ((upm V5 4 9 z5) 4 9) = (-1) → Q (some (vI 1)) (upm V5 4 9 z5)) ∧ (((upm V5 4 9 z5) 4 9) = (-1) → Q (some (vI 0)) (upm (upm V5 4 9 z5) 4 8 (w32 (2 + (w32 (16 * ((upm V5 4 9 z5) 1 5)))))))))) ∧ (¬ (x3 = 0) → Mf K d mX7_rowNamed [vR a2, vJ (V2 1 8)] V2 (fun r V8 => ∃ z8, r = some (vI z8) ∧ ((¬ ((upm V8 4 9 z8) 4 9) = (-1) → Q (some (vI 1)) (upm V8 4 9 z8)) ∧ (((upm V8 4 9 z8) 4 9) = (-1) → Q (some (vI 0)) (upm (upm V8 4 9 z8) 4 8 (w32 (2 + (w32 (16 * ((upm V8 4 9 z8) 1 5)))))))))))) ∧ (z2 = 0 → Q (some (vI 0)) (upm V2 4 8 (w32 (1 + (w32 (16 * (V2 1 5))))))))))) : Mf K (d + 1) mX5_readToldName [vR 4, vR 1, vR a2, vI x3] V Q := by
  refine Mt.of2 (L := [some (vR 4), some (vR 1), some (vR a2), some (vI x3)]) pnX5 rfl rfl ?_
  refine wp_aload_n dX5_readToldName_0 rfl rfl ?_
  refine wp_callV (S := []) (as := []) dX5_readToldName_1 lX5_57 (h) (by omega) sh1 rfl rfl (Nat.le_of_ble_eq_true rfl) ⟨Nat.le_refl _, Nat.le_refl _⟩ ?_
  rintro _ _ V1 ⟨rfl, rfl, q1⟩
  show Wp _ _ _ _ _ 4 _ [] _ _ _ _ _
  refine wp_aload_n dX5_readToldName_4 rfl rfl ?_
  refine wp_callV (S := []) (as := []) dX5_readToldName_5 lX5_93 (q1) (by omega) sh1 rfl rfl (Nat.le_of_ble_eq_true rfl) ⟨Nat.le_refl _, Nat.le_refl _⟩ ?_
  rintro _ _ V2 ⟨rfl, z2, rfl, q2⟩
  show Wp _ _ _ _ _ 8 _ [vI z2] _ _ _ _ _
  refine wp_if_ne (tgt := 18) dX5_readToldName_8 rfl (fun c3 => ?_) (fun c3 => ?_)
  ·
    refine wp_aload_n dX5_readToldName_18 rfl rfl ?_
    refine wp_iload_n dX5_readToldName_19 rfl rfl ?_
    refine wp_if_eq (tgt := 34) dX5_readToldName_20 rfl (fun c4 => ?_) (fun c4 => ?_)
    ·
      refine wp_aload_n dX5_readToldName_34 rfl rfl ?_
      refine wp_aload_n dX5_readToldName_35 rfl rfl ?_
      refine wp_getJ dX5_readToldName_36 fX5_97 rfl sh1 (by decide) ?_
      refine wp_callV (S := [vR 4]) (as := [vJ (V2 1 8)]) dX5_readToldName_39 lX5_105 (((q2.1 c3).1 c4)) (by omega) h2.1 rfl rfl (Nat.le_of_ble_eq_true rfl) ⟨Nat.le_refl _, Nat.le_refl _⟩ ?_
      rintro _ _ V5 ⟨rfl, z5, rfl, q5⟩
      show Wp _ _ _ _ _ 42 _ [vI z5, vR 4] _ _ _ _ _
      refine wp_putI dX5_readToldName_42 fwX5_166 rfl sh4 (by decide) ?_
      refine wp_aload_n dX5_readToldName_45 rfl rfl ?_
      refine wp_getI dX5_readToldName_46 fX5_166 rfl sh4 (by decide) ?_
      refine wp_iconst dX5_readToldName_49 (by decide) ?_
      refine wp_icmp_ne (tgt := 62) dX5_readToldName_50 rfl (fun c6 => ?_) (fun c6 => ?_)
      ·
        refine wp_iconst dX5_readToldName_62 (by decide) ?_
        refine wp_goto (tgt := 67) dX5_readToldName_63 rfl ?_
        exact wp_zreturn dX5_readToldName_67 rfl ⟨rfl, rfl⟩ (by decide) ⟨rfl, (q5.1 c6)⟩
      ·
        refine wp_aload_n dX5_readToldName_53 rfl rfl ?_
        refine wp_aload_n dX5_readToldName_54 rfl rfl ?_
        refine wp_iconst dX5_readToldName_55 (by decide) ?_
        refine wp_inlV (d' := d) (S := []) (as := [vR 1, vI 2]) dX5_readToldName_56 lX5_89 (by omega) sh4 rfl rfl (Nat.le_of_ble_eq_true rfl) ⟨Nat.le_refl _, Nat.le_refl _⟩ (Mt.of2 (L := [some (vR 4), some (vR 1), some (vI 2)]) pnX5 rfl rfl ?_)
        refine wp_aload_n dX5_wrong_0 rfl rfl ?_
        refine wp_iload_n dX5_wrong_1 rfl rfl ?_
        refine wp_bipush dX5_wrong_2 (by decide) ?_
        refine wp_aload_n dX5_wrong_4 rfl rfl ?_
        refine wp_getI dX5_wrong_5 fX5_74 rfl sh1 (by decide) ?_
        refine wp_imul dX5_wrong_8 ?_
        refine wp_iadd dX5_wrong_9 ?_
        refine wp_putI dX5_wrong_10 fwX5_48 rfl sh4 (by decide) ?_
        refine wp_iconst dX5_wrong_13 (by decide) ?_
        refine wp_zreturn dX5_wrong_14 rfl ⟨rfl, rfl⟩ (by decide) ?_
        show Wp _ _ _ _ _ 59 _ [vI 0] _ _ _ _ _
        refine wp_if_eq (tgt := 66) dX5_readToldName_59 rfl (fun c7 => ?_) (fun c7 => False.elim (by revert c7; decide))
        refine wp_iconst dX5_readToldName_66 (by decide) ?_
        exact wp_zreturn dX5_readToldName_67 rfl ⟨rfl, rfl⟩ (by decide) ⟨rfl, (q5.2 c6)⟩
    ·
      refine wp_aload_n dX5_readToldName_23 rfl rfl ?_
      refine wp_aload_n dX5_readToldName_24 rfl rfl ?_
      refine wp_getJ dX5_readToldName_25 fX5_97 rfl sh1 (by decide) ?_
      refine wp_callV (S := [vR 4]) (as := [vJ (V2 1 8)]) dX5_readToldName_28 lX5_101 (((q2.1 c3).2 c4)) (by omega) h2.1 rfl rfl (Nat.le_of_ble_eq_true rfl) ⟨Nat.le_refl _, Nat.le_refl _⟩ ?_
      rintro _ _ V8 ⟨rfl, z8, rfl, q8⟩
      show Wp _ _ _ _ _ 31 _ [vI z8, vR 4] _ _ _ _ _
      refine wp_goto (tgt := 42) dX5_readToldName_31 rfl ?_
      refine wp_putI dX5_readToldName_42 fwX5_166 rfl sh4 (by decide) ?_
      refine wp_aload_n dX5_readToldName_45 rfl rfl ?_
      refine wp_getI dX5_readToldName_46 fX5_166 rfl sh4 (by decide) ?_
      refine wp_iconst dX5_readToldName_49 (by decide) ?_
      refine wp_icmp_ne (tgt := 62) dX5_readToldName_50 rfl (fun c9 => ?_) (fun c9 => ?_)
      ·
        refine wp_iconst dX5_readToldName_62 (by decide) ?_
        refine wp_goto (tgt := 67) dX5_readToldName_63 rfl ?_
        exact wp_zreturn dX5_readToldName_67 rfl ⟨rfl, rfl⟩ (by decide) ⟨rfl, (q8.1 c9)⟩
      ·
        refine wp_aload_n dX5_readToldName_53 rfl rfl ?_
        refine wp_aload_n dX5_readToldName_54 rfl rfl ?_
        refine wp_iconst dX5_readToldName_55 (by decide) ?_
        refine wp_inlV (d' := d) (S := []) (as := [vR 1, vI 2]) dX5_readToldName_56 lX5_89 (by omega) sh4 rfl rfl (Nat.le_of_ble_eq_true rfl) ⟨Nat.le_refl _, Nat.le_refl _⟩ (Mt.of2 (L := [some (vR 4), some (vR 1), some (vI 2)]) pnX5 rfl rfl ?_)
        refine wp_aload_n dX5_wrong_0 rfl rfl ?_
        refine wp_iload_n dX5_wrong_1 rfl rfl ?_
        refine wp_bipush dX5_wrong_2 (by decide) ?_
        refine wp_aload_n dX5_wrong_4 rfl rfl ?_
        refine wp_getI dX5_wrong_5 fX5_74 rfl sh1 (by decide) ?_
        refine wp_imul dX5_wrong_8 ?_
        refine wp_iadd dX5_wrong_9 ?_
        refine wp_putI dX5_wrong_10 fwX5_48 rfl sh4 (by decide) ?_
        refine wp_iconst dX5_wrong_13 (by decide) ?_
        refine wp_zreturn dX5_wrong_14 rfl ⟨rfl, rfl⟩ (by decide) ?_
        show Wp _ _ _ _ _ 59 _ [vI 0] _ _ _ _ _
        refine wp_if_eq (tgt := 66) dX5_readToldName_59 rfl (fun c10 => ?_) (fun c10 => False.elim (by revert c10; decide))
        refine wp_iconst dX5_readToldName_66 (by decide) ?_
        exact wp_zreturn dX5_readToldName_67 rfl ⟨rfl, rfl⟩ (by decide) ⟨rfl, (q8.2 c9)⟩
  ·
    refine wp_aload_n dX5_readToldName_11 rfl rfl ?_
    refine wp_aload_n dX5_readToldName_12 rfl rfl ?_
    refine wp_iconst dX5_readToldName_13 (by decide) ?_
    refine wp_inlV (d' := d) (S := []) (as := [vR 1, vI 1]) dX5_readToldName_14 lX5_89 (by omega) sh4 rfl rfl (Nat.le_of_ble_eq_true rfl) ⟨Nat.le_refl _, Nat.le_refl _⟩ (Mt.of2 (L := [some (vR 4), some (vR 1), some (vI 1)]) pnX5 rfl rfl ?_)
    refine wp_aload_n dX5_wrong_0 rfl rfl ?_
    refine wp_iload_n dX5_wrong_1 rfl rfl ?_
    refine wp_bipush dX5_wrong_2 (by decide) ?_
    refine wp_aload_n dX5_wrong_4 rfl rfl ?_
    refine wp_getI dX5_wrong_5 fX5_74 rfl sh1 (by decide) ?_
    refine wp_imul dX5_wrong_8 ?_
    refine wp_iadd dX5_wrong_9 ?_
    refine wp_putI dX5_wrong_10 fwX5_48 rfl sh4 (by decide) ?_
    refine wp_iconst dX5_wrong_13 (by decide) ?_
    refine wp_zreturn dX5_wrong_14 rfl ⟨rfl, rfl⟩ (by decide) ?_
    show Wp _ _ _ _ _ 17 _ [vI 0] _ _ _ _ _
    exact wp_zreturn dX5_readToldName_17 rfl ⟨rfl, rfl⟩ (by decide) ⟨rfl, (q2.2 c3)⟩
set_option maxHeartbeats 4000000 in
set_option maxRecDepth 10000 in
theorem sX5_readNumber {K : KK} {d : Nat} {V : Mem} {Q : Option AV → Mem → Prop} (x2 : Int) (h : Mf K d mX9_advance [vR 1] V (fun r V1 => r = none ∧ (((V1 1 4) = 3 → ((((upm V1 4 9 (V1 1 6)) 4 9) ≤ x2 → Q (some (vI 1)) (upm V1 4 9 (V1 1 6))) ∧ (¬ (((upm V1 4 9 (V1 1 6)) 4 9) ≤ x2) → Q (some (vI 0)) (upm (upm V1 4 9 (V1 1 6)) 4 8 (w32 (4 + (w32 (16 * ((upm V1 4 9 (V1 1 6)) 1 5))))))))) ∧ (¬ ((V1 1 4) = 3) → Q (some (vI 0)) (upm V1 4 8 (w32 (1 + (w32 (16 * (V1 1 5)))))))))) : Mf K (d + 1) mX5_readNumber [vR 4, vR 1, vI x2] V Q := by
  refine Mt.of2 (L := [some (vR 4), some (vR 1), some (vI x2)]) pnX5 rfl rfl ?_
  refine wp_aload_n dX5_readNumber_0 rfl rfl ?_
  refine wp_callV (S := []) (as := []) dX5_readNumber_1 lX5_57 (h) (by omega) sh1 rfl rfl (Nat.le_of_ble_eq_true rfl) ⟨Nat.le_refl _, Nat.le_refl _⟩ ?_
  rintro _ _ V1 ⟨rfl, rfl, q1⟩
  show Wp _ _ _ _ _ 4 _ [] _ _ _ _ _
  refine wp_aload_n dX5_readNumber_4 rfl rfl ?_
  refine wp_getI dX5_readNumber_5 fX5_60 rfl sh1 (by decide) ?_
  refine wp_iconst dX5_readNumber_8 (by decide) ?_
  refine wp_icmp_eq (tgt := 19) dX5_readNumber_9 rfl (fun c2 => ?_) (fun c2 => ?_)
  ·
    refine wp_aload_n dX5_readNumber_19 rfl rfl ?_
    refine wp_aload_n dX5_readNumber_20 rfl rfl ?_
    refine wp_getI dX5_readNumber_21 fX5_129 rfl sh1 (by decide) ?_
    refine wp_putI dX5_readNumber_24 fwX5_166 rfl sh4 (by decide) ?_
    refine wp_aload_n dX5_readNumber_27 rfl rfl ?_
    refine wp_getI dX5_readNumber_28 fX5_166 rfl sh4 (by decide) ?_
    refine wp_iload_n dX5_readNumber_31 rfl rfl ?_
    refine wp_icmp_le (tgt := 44) dX5_readNumber_32 rfl (fun c3 => ?_) (fun c3 => ?_)
    ·
      refine wp_iconst dX5_readNumber_44 (by decide) ?_
      refine wp_goto (tgt := 49) dX5_readNumber_45 rfl ?_
      exact wp_zreturn dX5_readNumber_49 rfl ⟨rfl, rfl⟩ (by decide) ⟨rfl, ((q1.1 c2).1 c3)⟩
    ·
      refine wp_aload_n dX5_readNumber_35 rfl rfl ?_
      refine wp_aload_n dX5_readNumber_36 rfl rfl ?_
      refine wp_iconst dX5_readNumber_37 (by decide) ?_
      refine wp_inlV (d' := d) (S := []) (as := [vR 1, vI 4]) dX5_readNumber_38 lX5_89 (by omega) sh4 rfl rfl (Nat.le_of_ble_eq_true rfl) ⟨Nat.le_refl _, Nat.le_refl _⟩ (Mt.of2 (L := [some (vR 4), some (vR 1), some (vI 4)]) pnX5 rfl rfl ?_)
      refine wp_aload_n dX5_wrong_0 rfl rfl ?_
      refine wp_iload_n dX5_wrong_1 rfl rfl ?_
      refine wp_bipush dX5_wrong_2 (by decide) ?_
      refine wp_aload_n dX5_wrong_4 rfl rfl ?_
      refine wp_getI dX5_wrong_5 fX5_74 rfl sh1 (by decide) ?_
      refine wp_imul dX5_wrong_8 ?_
      refine wp_iadd dX5_wrong_9 ?_
      refine wp_putI dX5_wrong_10 fwX5_48 rfl sh4 (by decide) ?_
      refine wp_iconst dX5_wrong_13 (by decide) ?_
      refine wp_zreturn dX5_wrong_14 rfl ⟨rfl, rfl⟩ (by decide) ?_
      show Wp _ _ _ _ _ 41 _ [vI 0] _ _ _ _ _
      refine wp_if_eq (tgt := 48) dX5_readNumber_41 rfl (fun c4 => ?_) (fun c4 => False.elim (by revert c4; decide))
      refine wp_iconst dX5_readNumber_48 (by decide) ?_
      exact wp_zreturn dX5_readNumber_49 rfl ⟨rfl, rfl⟩ (by decide) ⟨rfl, ((q1.1 c2).2 c3)⟩
  ·
    refine wp_aload_n dX5_readNumber_12 rfl rfl ?_
    refine wp_aload_n dX5_readNumber_13 rfl rfl ?_
    refine wp_iconst dX5_readNumber_14 (by decide) ?_
    refine wp_inlV (d' := d) (S := []) (as := [vR 1, vI 1]) dX5_readNumber_15 lX5_89 (by omega) sh4 rfl rfl (Nat.le_of_ble_eq_true rfl) ⟨Nat.le_refl _, Nat.le_refl _⟩ (Mt.of2 (L := [some (vR 4), some (vR 1), some (vI 1)]) pnX5 rfl rfl ?_)
    refine wp_aload_n dX5_wrong_0 rfl rfl ?_
    refine wp_iload_n dX5_wrong_1 rfl rfl ?_
    refine wp_bipush dX5_wrong_2 (by decide) ?_
    refine wp_aload_n dX5_wrong_4 rfl rfl ?_
    refine wp_getI dX5_wrong_5 fX5_74 rfl sh1 (by decide) ?_
    refine wp_imul dX5_wrong_8 ?_
    refine wp_iadd dX5_wrong_9 ?_
    refine wp_putI dX5_wrong_10 fwX5_48 rfl sh4 (by decide) ?_
    refine wp_iconst dX5_wrong_13 (by decide) ?_
    refine wp_zreturn dX5_wrong_14 rfl ⟨rfl, rfl⟩ (by decide) ?_
    show Wp _ _ _ _ _ 18 _ [vI 0] _ _ _ _ _
    exact wp_zreturn dX5_readNumber_18 rfl ⟨rfl, rfl⟩ (by decide) ⟨rfl, (q1.2 c2)⟩
set_option maxHeartbeats 4000000 in
set_option maxRecDepth 10000 in
theorem sX5_readLaw {K : KK} {d : Nat} {V : Mem} {Q : Option AV → Mem → Prop}  (h : (((V 4 7) = 0 → Wf K (d + 2) mX5_readLaw 44 [some (vR 4), some (vR 1), some (vI 0)] [] (upm (upm (upm (upm (upm V 4 7 1) 35 2 0) 4 4 0) 4 5 0) 4 6 1) Q) ∧ (¬ ((V 4 7) = 0) → Q (some (vI 0)) (upm V 4 8 (w32 (3 + (w32 (16 * (V 1 5))))))))) : Mf K (d + 2) mX5_readLaw [vR 4, vR 1] V Q := by
  refine Mt.of2 (L := [some (vR 4), some (vR 1), none]) pnX5 rfl rfl ?_
  refine wp_aload_n dX5_readLaw_0 rfl rfl ?_
  refine wp_getI dX5_readLaw_1 fX5_44 rfl sh4 (by decide) ?_
  refine wp_if_eq (tgt := 14) dX5_readLaw_4 rfl (fun c1 => ?_) (fun c1 => ?_)
  ·
    refine wp_aload_n dX5_readLaw_14 rfl rfl ?_
    refine wp_iconst dX5_readLaw_15 (by decide) ?_
    refine wp_putZ dX5_readLaw_16 fwX5_44 rfl sh4 (by decide) (by decide) ?_
    refine wp_aload_n dX5_readLaw_19 rfl rfl ?_
    refine wp_getR (b := 35) dX5_readLaw_20 fX5_21 rfl sh4 (by decide) rfl ?_
    refine wp_iconst dX5_readLaw_23 (by decide) ?_
    refine wp_putI dX5_readLaw_24 fwX5_175 rfl sh35 (by decide) ?_
    refine wp_aload_n dX5_readLaw_27 rfl rfl ?_
    refine wp_iconst dX5_readLaw_28 (by decide) ?_
    refine wp_putI dX5_readLaw_29 fwX5_178 rfl sh4 (by decide) ?_
    refine wp_aload_n dX5_readLaw_32 rfl rfl ?_
    refine wp_iconst dX5_readLaw_33 (by decide) ?_
    refine wp_putI dX5_readLaw_34 fwX5_181 rfl sh4 (by decide) ?_
    refine wp_aload_n dX5_readLaw_37 rfl rfl ?_
    refine wp_iconst dX5_readLaw_38 (by decide) ?_
    refine wp_putZ dX5_readLaw_39 fwX5_184 rfl sh4 (by decide) (by decide) ?_
    refine wp_iconst dX5_readLaw_42 (by decide) ?_
    refine wp_istore_n dX5_readLaw_43 rfl (by decide) rfl ?_
    exact (h.1 c1)
  ·
    refine wp_aload_n dX5_readLaw_7 rfl rfl ?_
    refine wp_aload_n dX5_readLaw_8 rfl rfl ?_
    refine wp_iconst dX5_readLaw_9 (by decide) ?_
    refine wp_inlV (d' := (d + 1)) (S := []) (as := [vR 1, vI 3]) dX5_readLaw_10 lX5_89 (by omega) sh4 rfl rfl (Nat.le_of_ble_eq_true rfl) ⟨Nat.le_refl _, Nat.le_refl _⟩ (Mt.of2 (L := [some (vR 4), some (vR 1), some (vI 3)]) pnX5 rfl rfl ?_)
    refine wp_aload_n dX5_wrong_0 rfl rfl ?_
    refine wp_iload_n dX5_wrong_1 rfl rfl ?_
    refine wp_bipush dX5_wrong_2 (by decide) ?_
    refine wp_aload_n dX5_wrong_4 rfl rfl ?_
    refine wp_getI dX5_wrong_5 fX5_74 rfl sh1 (by decide) ?_
    refine wp_imul dX5_wrong_8 ?_
    refine wp_iadd dX5_wrong_9 ?_
    refine wp_putI dX5_wrong_10 fwX5_48 rfl sh4 (by decide) ?_
    refine wp_iconst dX5_wrong_13 (by decide) ?_
    refine wp_zreturn dX5_wrong_14 rfl ⟨rfl, rfl⟩ (by decide) ?_
    show Wp _ _ _ _ _ 13 _ [vI 0] _ _ _ _ _
    exact wp_zreturn dX5_readLaw_13 rfl ⟨rfl, rfl⟩ (by decide) ⟨rfl, (h.2 c1)⟩
set_option maxHeartbeats 4000000 in
set_option maxRecDepth 10000 in
theorem sX5_readLaw_44 {K : KK} {d : Nat} {V : Mem} {Q : Option AV → Mem → Prop} (x2 : Int) (h : ((1000 < x2 → Q (some (vI 0)) (upm V 4 8 (w32 (1 + (w32 (16 * (V 1 5))))))) ∧ (¬ (1000 < x2) → Mf K (d + 1) mX9_advance [vR 1] V (fun r V2 => r = none ∧ (((V2 4 6) = 0 → ((¬ (V2 1 7) = 59 → ((¬ (V2 1 7) = 41 → Mf K (d + 1) mX5_takeOperator [vR 4, vR 1] V2 (fun r V6 => ∃ z6, r = some (vI z6) ∧ ((¬ z6 = 0 → Wf K (d + 2) mX5_readLaw 44 [some (vR 4), some (vR 1), some (vI (w32 (x2 + 1)))] [] V6 Q) ∧ (z6 = 0 → Q (some (vI 0)) V6)))) ∧ ((V2 1 7) = 41 → Mf K d mX5_release [vR 4, vI 1] V2 (fun r V8 => r = none ∧ ((¬ (V8 4 4) = 0 → Mf K d mX5_releaseNots [vR 4] (upm (upm V8 4 4 (w32 ((V8 4 4) - 1))) 4 5 (w32 (((upm V8 4 4 (w32 ((V8 4 4) - 1))) 4 5) - 1))) (fun r V10 => r = none ∧ Wf K (d + 2) mX5_readLaw 44 [some (vR 4), some (vR 1), some (vI (w32 (x2 + 1)))] [] V10 Q)) ∧ ((V8 4 4) = 0 → Q (some (vI 0)) (upm V8 4 8 (w32 (1 + (w32 (16 * (V8 1 5)))))))))))) ∧ ((V2 1 7) = 59 → Mf K (d + 1) mX5_release [vR 4, vI 1] V2 (fun r V13 => r = none ∧ (((V13 4 4) = 0 → Q (some (vI 1)) V13) ∧ (¬ ((V13 4 4) = 0) → Q (some (vI 0)) (upm V13 4 8 (w32 (1 + (w32 (16 * (V13 1 5)))))))))))) ∧ (¬ ((V2 4 6) = 0) → Mf K (d + 1) mX5_takePart [vR 4, vR 1] V2 (fun r V16 => ∃ z16, r = some (vI z16) ∧ ((¬ z16 = 0 → Wf K (d + 2) mX5_readLaw 44 [some (vR 4), some (vR 1), some (vI (w32 (x2 + 1)))] [] V16 Q) ∧ (z16 = 0 → Q (some (vI 0)) V16))))))))) : Wf K (d + 2) mX5_readLaw 44 [some (vR 4), some (vR 1), some (vI x2)] [] V Q := by
  refine wp_iload_n dX5_readLaw_44 rfl rfl ?_
  refine wp_sipush dX5_readLaw_45 (by decide) ?_
  refine wp_icmp_gt (tgt := 143) dX5_readLaw_48 rfl (fun c1 => ?_) (fun c1 => ?_)
  ·
    refine wp_aload_n dX5_readLaw_143 rfl rfl ?_
    refine wp_aload_n dX5_readLaw_144 rfl rfl ?_
    refine wp_iconst dX5_readLaw_145 (by decide) ?_
    refine wp_inlV (d' := (d + 1)) (S := []) (as := [vR 1, vI 1]) dX5_readLaw_146 lX5_89 (by omega) sh4 rfl rfl (Nat.le_of_ble_eq_true rfl) ⟨Nat.le_refl _, Nat.le_refl _⟩ (Mt.of2 (L := [some (vR 4), some (vR 1), some (vI 1)]) pnX5 rfl rfl ?_)
    refine wp_aload_n dX5_wrong_0 rfl rfl ?_
    refine wp_iload_n dX5_wrong_1 rfl rfl ?_
    refine wp_bipush dX5_wrong_2 (by decide) ?_
    refine wp_aload_n dX5_wrong_4 rfl rfl ?_
    refine wp_getI dX5_wrong_5 fX5_74 rfl sh1 (by decide) ?_
    refine wp_imul dX5_wrong_8 ?_
    refine wp_iadd dX5_wrong_9 ?_
    refine wp_putI dX5_wrong_10 fwX5_48 rfl sh4 (by decide) ?_
    refine wp_iconst dX5_wrong_13 (by decide) ?_
    refine wp_zreturn dX5_wrong_14 rfl ⟨rfl, rfl⟩ (by decide) ?_
    show Wp _ _ _ _ _ 149 _ [vI 0] _ _ _ _ _
    exact wp_zreturn dX5_readLaw_149 rfl ⟨rfl, rfl⟩ (by decide) ⟨rfl, (h.1 c1)⟩
  ·
    refine wp_aload_n dX5_readLaw_51 rfl rfl ?_
    refine wp_callV (S := []) (as := []) dX5_readLaw_52 lX5_57 ((h.2 c1)) (by omega) sh1 rfl rfl (Nat.le_of_ble_eq_true rfl) ⟨Nat.le_refl _, Nat.le_refl _⟩ ?_
    rintro _ _ V2 ⟨rfl, rfl, q2⟩
    show Wp _ _ _ _ _ 55 _ [] _ _ _ _ _
    refine wp_aload_n dX5_readLaw_55 rfl rfl ?_
    refine wp_getI dX5_readLaw_56 fX5_184 rfl sh4 (by decide) ?_
    refine wp_if_eq (tgt := 72) dX5_readLaw_59 rfl (fun c3 => ?_) (fun c3 => ?_)
    ·
      refine wp_aload_n dX5_readLaw_72 rfl rfl ?_
      refine wp_getI dX5_readLaw_73 fX5_77 rfl sh1 (by decide) ?_
      refine wp_bipush dX5_readLaw_76 (by decide) ?_
      refine wp_icmp_ne (tgt := 108) dX5_readLaw_78 rfl (fun c4 => ?_) (fun c4 => ?_)
      ·
        refine wp_aload_n dX5_readLaw_108 rfl rfl ?_
        refine wp_getI dX5_readLaw_109 fX5_77 rfl sh1 (by decide) ?_
        refine wp_bipush dX5_readLaw_112 (by decide) ?_
        refine wp_icmp_ne (tgt := 127) dX5_readLaw_114 rfl (fun c5 => ?_) (fun c5 => ?_)
        ·
          refine wp_aload_n dX5_readLaw_127 rfl rfl ?_
          refine wp_aload_n dX5_readLaw_128 rfl rfl ?_
          refine wp_callV (S := []) (as := [vR 1]) dX5_readLaw_129 lX5_196 ((((q2.1 c3).1 c4).1 c5)) (by omega) sh4 rfl rfl (Nat.le_of_ble_eq_true rfl) ⟨Nat.le_refl _, Nat.le_refl _⟩ ?_
          rintro _ _ V6 ⟨rfl, z6, rfl, q6⟩
          show Wp _ _ _ _ _ 132 _ [vI z6] _ _ _ _ _
          refine wp_if_ne (tgt := 137) dX5_readLaw_132 rfl (fun c7 => ?_) (fun c7 => ?_)
          ·
            refine wp_iinc dX5_readLaw_137 rfl rfl ?_
            refine wp_goto (tgt := 44) dX5_readLaw_140 rfl ?_
            exact (q6.1 c7)
          ·
            refine wp_iconst dX5_readLaw_135 (by decide) ?_
            exact wp_zreturn dX5_readLaw_136 rfl ⟨rfl, rfl⟩ (by decide) ⟨rfl, (q6.2 c7)⟩
        ·
          refine wp_aload_n dX5_readLaw_117 rfl rfl ?_
          refine wp_aload_n dX5_readLaw_118 rfl rfl ?_
          refine wp_inlV (d' := (d + 1)) (S := []) (as := [vR 1]) dX5_readLaw_119 lX5_193 (by omega) sh4 rfl rfl (Nat.le_of_ble_eq_true rfl) ⟨Nat.le_refl _, Nat.le_refl _⟩ (Mt.of2 (L := [some (vR 4), some (vR 1)]) pnX5 rfl rfl ?_)
          refine wp_aload_n dX5_closeBracket_0 rfl rfl ?_
          refine wp_iconst dX5_closeBracket_1 (by decide) ?_
          refine wp_callV (S := []) (as := [vI 1]) dX5_closeBracket_2 lX5_190 ((((q2.1 c3).1 c4).2 c5)) (by omega) sh4 rfl rfl (Nat.le_of_ble_eq_true rfl) ⟨Nat.le_refl _, Nat.le_refl _⟩ ?_
          rintro _ _ V8 ⟨rfl, rfl, q8⟩
          show Wp _ _ _ _ _ 5 _ [] _ _ _ _ _
          refine wp_aload_n dX5_closeBracket_5 rfl rfl ?_
          refine wp_getI dX5_closeBracket_6 fX5_178 rfl sh4 (by decide) ?_
          refine wp_if_ne (tgt := 19) dX5_closeBracket_9 rfl (fun c9 => ?_) (fun c9 => ?_)
          ·
            refine wp_aload_n dX5_closeBracket_19 rfl rfl ?_
            refine wp_dup dX5_closeBracket_20 rfl ?_
            refine wp_getI dX5_closeBracket_21 fX5_178 rfl sh4 (by decide) ?_
            refine wp_iconst dX5_closeBracket_24 (by decide) ?_
            refine wp_isub dX5_closeBracket_25 ?_
            refine wp_putI dX5_closeBracket_26 fwX5_178 rfl sh4 (by decide) ?_
            refine wp_aload_n dX5_closeBracket_29 rfl rfl ?_
            refine wp_dup dX5_closeBracket_30 rfl ?_
            refine wp_getI dX5_closeBracket_31 fX5_181 rfl sh4 (by decide) ?_
            refine wp_iconst dX5_closeBracket_34 (by decide) ?_
            refine wp_isub dX5_closeBracket_35 ?_
            refine wp_putI dX5_closeBracket_36 fwX5_181 rfl sh4 (by decide) ?_
            refine wp_aload_n dX5_closeBracket_39 rfl rfl ?_
            refine wp_callV (S := []) (as := []) dX5_closeBracket_40 lX5_204 ((q8.1 c9)) (by omega) sh4 rfl rfl (Nat.le_of_ble_eq_true rfl) ⟨Nat.le_refl _, Nat.le_refl _⟩ ?_
            rintro _ _ V10 ⟨rfl, rfl, q10⟩
            show Wp _ _ _ _ _ 43 _ [] _ _ _ _ _
            refine wp_iconst dX5_closeBracket_43 (by decide) ?_
            refine wp_zreturn dX5_closeBracket_44 rfl ⟨rfl, rfl⟩ (by decide) ?_
            show Wp _ _ _ _ _ 122 _ [vI 1] _ _ _ _ _
            refine wp_if_ne (tgt := 137) dX5_readLaw_122 rfl (fun c11 => ?_) (fun c11 => False.elim (by revert c11; decide))
            refine wp_iinc dX5_readLaw_137 rfl rfl ?_
            refine wp_goto (tgt := 44) dX5_readLaw_140 rfl ?_
            exact q10
          ·
            refine wp_aload_n dX5_closeBracket_12 rfl rfl ?_
            refine wp_aload_n dX5_closeBracket_13 rfl rfl ?_
            refine wp_iconst dX5_closeBracket_14 (by decide) ?_
            refine wp_inlV (d' := d) (S := []) (as := [vR 1, vI 1]) dX5_closeBracket_15 lX5_89 (by omega) sh4 rfl rfl (Nat.le_of_ble_eq_true rfl) ⟨Nat.le_refl _, Nat.le_refl _⟩ (Mt.of2 (L := [some (vR 4), some (vR 1), some (vI 1)]) pnX5 rfl rfl ?_)
            refine wp_aload_n dX5_wrong_0 rfl rfl ?_
            refine wp_iload_n dX5_wrong_1 rfl rfl ?_
            refine wp_bipush dX5_wrong_2 (by decide) ?_
            refine wp_aload_n dX5_wrong_4 rfl rfl ?_
            refine wp_getI dX5_wrong_5 fX5_74 rfl sh1 (by decide) ?_
            refine wp_imul dX5_wrong_8 ?_
            refine wp_iadd dX5_wrong_9 ?_
            refine wp_putI dX5_wrong_10 fwX5_48 rfl sh4 (by decide) ?_
            refine wp_iconst dX5_wrong_13 (by decide) ?_
            refine wp_zreturn dX5_wrong_14 rfl ⟨rfl, rfl⟩ (by decide) ?_
            show Wp _ _ _ _ _ 18 _ [vI 0] _ _ _ _ _
            refine wp_zreturn dX5_closeBracket_18 rfl ⟨rfl, rfl⟩ (by decide) ?_
            show Wp _ _ _ _ _ 122 _ [vI 0] _ _ _ _ _
            refine wp_if_ne (tgt := 137) dX5_readLaw_122 rfl (fun c12 => False.elim (by revert c12; decide)) (fun c12 => ?_)
            refine wp_iconst dX5_readLaw_125 (by decide) ?_
            exact wp_zreturn dX5_readLaw_126 rfl ⟨rfl, rfl⟩ (by decide) ⟨rfl, (q8.2 c9)⟩
      ·
        refine wp_aload_n dX5_readLaw_81 rfl rfl ?_
        refine wp_iconst dX5_readLaw_82 (by decide) ?_
        refine wp_callV (S := []) (as := [vI 1]) dX5_readLaw_83 lX5_190 (((q2.1 c3).2 c4)) (by omega) sh4 rfl rfl (Nat.le_of_ble_eq_true rfl) ⟨Nat.le_refl _, Nat.le_refl _⟩ ?_
        rintro _ _ V13 ⟨rfl, rfl, q13⟩
        show Wp _ _ _ _ _ 86 _ [] _ _ _ _ _
        refine wp_aload_n dX5_readLaw_86 rfl rfl ?_
        refine wp_getI dX5_readLaw_87 fX5_178 rfl sh4 (by decide) ?_
        refine wp_if_eq (tgt := 102) dX5_readLaw_90 rfl (fun c14 => ?_) (fun c14 => ?_)
        ·
          refine wp_iconst dX5_readLaw_102 (by decide) ?_
          refine wp_goto (tgt := 107) dX5_readLaw_103 rfl ?_
          exact wp_zreturn dX5_readLaw_107 rfl ⟨rfl, rfl⟩ (by decide) ⟨rfl, (q13.1 c14)⟩
        ·
          refine wp_aload_n dX5_readLaw_93 rfl rfl ?_
          refine wp_aload_n dX5_readLaw_94 rfl rfl ?_
          refine wp_iconst dX5_readLaw_95 (by decide) ?_
          refine wp_inlV (d' := (d + 1)) (S := []) (as := [vR 1, vI 1]) dX5_readLaw_96 lX5_89 (by omega) sh4 rfl rfl (Nat.le_of_ble_eq_true rfl) ⟨Nat.le_refl _, Nat.le_refl _⟩ (Mt.of2 (L := [some (vR 4), some (vR 1), some (vI 1)]) pnX5 rfl rfl ?_)
          refine wp_aload_n dX5_wrong_0 rfl rfl ?_
          refine wp_iload_n dX5_wrong_1 rfl rfl ?_
          refine wp_bipush dX5_wrong_2 (by decide) ?_
          refine wp_aload_n dX5_wrong_4 rfl rfl ?_
          refine wp_getI dX5_wrong_5 fX5_74 rfl sh1 (by decide) ?_
          refine wp_imul dX5_wrong_8 ?_
          refine wp_iadd dX5_wrong_9 ?_
          refine wp_putI dX5_wrong_10 fwX5_48 rfl sh4 (by decide) ?_
          refine wp_iconst dX5_wrong_13 (by decide) ?_
          refine wp_zreturn dX5_wrong_14 rfl ⟨rfl, rfl⟩ (by decide) ?_
          show Wp _ _ _ _ _ 99 _ [vI 0] _ _ _ _ _
          refine wp_if_eq (tgt := 106) dX5_readLaw_99 rfl (fun c15 => ?_) (fun c15 => False.elim (by revert c15; decide))
          refine wp_iconst dX5_readLaw_106 (by decide) ?_
          exact wp_zreturn dX5_readLaw_107 rfl ⟨rfl, rfl⟩ (by decide) ⟨rfl, (q13.2 c14)⟩
    ·
      refine wp_aload_n dX5_readLaw_62 rfl rfl ?_
      refine wp_aload_n dX5_readLaw_63 rfl rfl ?_
      refine wp_callV (S := []) (as := [vR 1]) dX5_readLaw_64 lX5_187 ((q2.2 c3)) (by omega) sh4 rfl rfl (Nat.le_of_ble_eq_true rfl) ⟨Nat.le_refl _, Nat.le_refl _⟩ ?_
      rintro _ _ V16 ⟨rfl, z16, rfl, q16⟩
      show Wp _ _ _ _ _ 67 _ [vI z16] _ _ _ _ _
      refine wp_if_ne (tgt := 137) dX5_readLaw_67 rfl (fun c17 => ?_) (fun c17 => ?_)
      ·
        refine wp_iinc dX5_readLaw_137 rfl rfl ?_
        refine wp_goto (tgt := 44) dX5_readLaw_140 rfl ?_
        exact (q16.1 c17)
      ·
        refine wp_iconst dX5_readLaw_70 (by decide) ?_
        exact wp_zreturn dX5_readLaw_71 rfl ⟨rfl, rfl⟩ (by decide) ⟨rfl, (q16.2 c17)⟩
set_option maxHeartbeats 4000000 in
set_option maxRecDepth 10000 in
theorem sX5_takePart {K : KK} {d : Nat} {V : Mem} {Q : Option AV → Mem → Prop}  (h : (((V 1 7) = 140 → Wf K (d + 1) mX5_takePart 19 [some (vR 4), some (vR 1), none, none] [] V Q) ∧ (¬ ((V 1 7) = 140) → ((¬ (V 1 7) = 40 → Wf K (d + 1) mX5_takePart 24 [some (vR 4), some (vR 1), none, none] [vI 0] V Q) ∧ ((V 1 7) = 40 → Wf K (d + 1) mX5_takePart 19 [some (vR 4), some (vR 1), none, none] [] V Q))))) : Mf K (d + 1) mX5_takePart [vR 4, vR 1] V Q := by
  refine Mt.of2 (L := [some (vR 4), some (vR 1), none, none]) pnX5 rfl rfl ?_
  refine wp_aload_n dX5_takePart_0 rfl rfl ?_
  refine wp_getI dX5_takePart_1 fX5_77 rfl sh1 (by decide) ?_
  refine wp_sipush dX5_takePart_4 (by decide) ?_
  refine wp_icmp_eq (tgt := 19) dX5_takePart_7 rfl (fun c1 => ?_) (fun c1 => ?_)
  ·
    exact (h.1 c1)
  ·
    refine wp_aload_n dX5_takePart_10 rfl rfl ?_
    refine wp_getI dX5_takePart_11 fX5_77 rfl sh1 (by decide) ?_
    refine wp_bipush dX5_takePart_14 (by decide) ?_
    refine wp_icmp_ne (tgt := 23) dX5_takePart_16 rfl (fun c2 => ?_) (fun c2 => ?_)
    ·
      refine wp_iconst dX5_takePart_23 (by decide) ?_
      exact ((h.2 c1).1 c2)
    ·
      exact ((h.2 c1).2 c2)
set_option maxHeartbeats 4000000 in
set_option maxRecDepth 10000 in
theorem sX5_takePart_19 {K : KK} {d : Nat} {V : Mem} {Q : Option AV → Mem → Prop}  (h : Wf K (d + 1) mX5_takePart 24 [some (vR 4), some (vR 1), none, none] [vI 1] V Q) : Wf K (d + 1) mX5_takePart 19 [some (vR 4), some (vR 1), none, none] [] V Q := by
  refine wp_iconst dX5_takePart_19 (by decide) ?_
  refine wp_goto (tgt := 24) dX5_takePart_20 rfl ?_
  exact h
set_option maxHeartbeats 4000000 in
set_option maxRecDepth 10000 in
theorem sX5_takePart_24 {K : KK} {d : Nat} {V : Mem} {Q : Option AV → Mem → Prop} (s0 : Int) (h : (((V 1 4) = 3 → Wf K (d + 1) mX5_takePart 53 [some (vR 4), some (vR 1), some (vI s0), none] [] V Q) ∧ (¬ ((V 1 4) = 3) → (((V 1 7) < 143 → Wf K (d + 1) mX5_takePart 57 [some (vR 4), some (vR 1), some (vI s0), none] [] V Q) ∧ (¬ ((V 1 7) < 143) → ((146 < (V 1 7) → Wf K (d + 1) mX5_takePart 57 [some (vR 4), some (vR 1), some (vI s0), none] [] V Q) ∧ (¬ (146 < (V 1 7)) → Wf K (d + 1) mX5_takePart 53 [some (vR 4), some (vR 1), some (vI s0), none] [] V Q))))))) : Wf K (d + 1) mX5_takePart 24 [some (vR 4), some (vR 1), none, none] [vI s0] V Q := by
  refine wp_istore_n dX5_takePart_24 rfl (by decide) rfl ?_
  refine wp_aload_n dX5_takePart_25 rfl rfl ?_
  refine wp_getI dX5_takePart_26 fX5_60 rfl sh1 (by decide) ?_
  refine wp_iconst dX5_takePart_29 (by decide) ?_
  refine wp_icmp_eq (tgt := 53) dX5_takePart_30 rfl (fun c1 => ?_) (fun c1 => ?_)
  ·
    exact (h.1 c1)
  ·
    refine wp_aload_n dX5_takePart_33 rfl rfl ?_
    refine wp_getI dX5_takePart_34 fX5_77 rfl sh1 (by decide) ?_
    refine wp_sipush dX5_takePart_37 (by decide) ?_
    refine wp_icmp_lt (tgt := 57) dX5_takePart_40 rfl (fun c2 => ?_) (fun c2 => ?_)
    ·
      exact ((h.2 c1).1 c2)
    ·
      refine wp_aload_n dX5_takePart_43 rfl rfl ?_
      refine wp_getI dX5_takePart_44 fX5_77 rfl sh1 (by decide) ?_
      refine wp_sipush dX5_takePart_47 (by decide) ?_
      refine wp_icmp_gt (tgt := 57) dX5_takePart_50 rfl (fun c3 => ?_) (fun c3 => ?_)
      ·
        exact (((h.2 c1).2 c2).1 c3)
      ·
        exact (((h.2 c1).2 c2).2 c3)
set_option maxHeartbeats 4000000 in
set_option maxRecDepth 10000 in
theorem sX5_takePart_53 {K : KK} {d : Nat} {V : Mem} {Q : Option AV → Mem → Prop} (x2 : Int) (h : Wf K (d + 1) mX5_takePart 58 [some (vR 4), some (vR 1), some (vI x2), none] [vI 1] V Q) : Wf K (d + 1) mX5_takePart 53 [some (vR 4), some (vR 1), some (vI x2), none] [] V Q := by
  refine wp_iconst dX5_takePart_53 (by decide) ?_
  refine wp_goto (tgt := 58) dX5_takePart_54 rfl ?_
  exact h
set_option maxHeartbeats 4000000 in
set_option maxRecDepth 10000 in
theorem sX5_takePart_57 {K : KK} {d : Nat} {V : Mem} {Q : Option AV → Mem → Prop} (x2 : Int) (h : Wf K (d + 1) mX5_takePart 58 [some (vR 4), some (vR 1), some (vI x2), none] [vI 0] V Q) : Wf K (d + 1) mX5_takePart 57 [some (vR 4), some (vR 1), some (vI x2), none] [] V Q := by
  refine wp_iconst dX5_takePart_57 (by decide) ?_
  exact h
set_option maxHeartbeats 4000000 in
set_option maxRecDepth 10000 in
theorem sX5_takePart_58 {K : KK} {d : Nat} {V : Mem} {Q : Option AV → Mem → Prop} (x2 : Int) (s0 : Int) (h : ((¬ x2 = 0 → Wf K (d + 1) mX5_takePart 74 [some (vR 4), some (vR 1), some (vI x2), none] [] V Q) ∧ (x2 = 0 → ((¬ s0 = 0 → Wf K (d + 1) mX5_takePart 74 [some (vR 4), some (vR 1), some (vI x2), none] [] V Q) ∧ (s0 = 0 → Q (some (vI 0)) (upm V 4 8 (w32 (1 + (w32 (16 * (V 1 5))))))))))) : Wf K (d + 1) mX5_takePart 58 [some (vR 4), some (vR 1), some (vI x2), none] [vI s0] V Q := by
  refine wp_istore_n dX5_takePart_58 rfl (by decide) rfl ?_
  refine wp_iload_n dX5_takePart_59 rfl rfl ?_
  refine wp_if_ne (tgt := 74) dX5_takePart_60 rfl (fun c1 => ?_) (fun c1 => ?_)
  ·
    exact wp_loc (L2 := [some (vR 4), some (vR 1), some (vI x2), none]) ⟨rfl, ⟨rfl, ⟨rfl, trivial⟩⟩⟩ (h.1 c1)
  ·
    refine wp_iload_n dX5_takePart_63 rfl rfl ?_
    refine wp_if_ne (tgt := 74) dX5_takePart_64 rfl (fun c2 => ?_) (fun c2 => ?_)
    ·
      exact wp_loc (L2 := [some (vR 4), some (vR 1), some (vI x2), none]) ⟨rfl, ⟨rfl, ⟨rfl, trivial⟩⟩⟩ ((h.2 c1).1 c2)
    ·
      refine wp_aload_n dX5_takePart_67 rfl rfl ?_
      refine wp_aload_n dX5_takePart_68 rfl rfl ?_
      refine wp_iconst dX5_takePart_69 (by decide) ?_
      refine wp_inlV (d' := d) (S := []) (as := [vR 1, vI 1]) dX5_takePart_70 lX5_89 (by omega) sh4 rfl rfl (Nat.le_of_ble_eq_true rfl) ⟨Nat.le_refl _, Nat.le_refl _⟩ (Mt.of2 (L := [some (vR 4), some (vR 1), some (vI 1)]) pnX5 rfl rfl ?_)
      refine wp_aload_n dX5_wrong_0 rfl rfl ?_
      refine wp_iload_n dX5_wrong_1 rfl rfl ?_
      refine wp_bipush dX5_wrong_2 (by decide) ?_
      refine wp_aload_n dX5_wrong_4 rfl rfl ?_
      refine wp_getI dX5_wrong_5 fX5_74 rfl sh1 (by decide) ?_
      refine wp_imul dX5_wrong_8 ?_
      refine wp_iadd dX5_wrong_9 ?_
      refine wp_putI dX5_wrong_10 fwX5_48 rfl sh4 (by decide) ?_
      refine wp_iconst dX5_wrong_13 (by decide) ?_
      refine wp_zreturn dX5_wrong_14 rfl ⟨rfl, rfl⟩ (by decide) ?_
      show Wp _ _ _ _ _ 73 _ [vI 0] _ _ _ _ _
      exact wp_zreturn dX5_takePart_73 rfl ⟨rfl, rfl⟩ (by decide) ⟨rfl, ((h.2 c1).2 c2)⟩
set_option maxHeartbeats 4000000 in
set_option maxRecDepth 10000 in
theorem sX5_takePart_74 {K : KK} {d : Nat} {V : Mem} {Q : Option AV → Mem → Prop} (x2 : Int) (h : (((V 4 5) < 5 → ((x2 = 0 → ((¬ (V 1 4) = 3 → Wf K (d + 1) mX5_takePart 137 [some (vR 4), none, none, none] [vI (w32 (- (V 1 7))), vR 35] V Q) ∧ ((V 1 4) = 3 → Wf K (d + 1) mX5_takePart 137 [some (vR 4), none, none, none] [vI (V 1 6), vR 35] V Q))) ∧ (¬ (x2 = 0) → Mf K d mX5_hold [vR 4, vI (V 1 7)] V (fun r V4 => r = none ∧ Q (some (vI 1)) (upm V4 4 5 (w32 ((V4 4 5) + 1))))))) ∧ (¬ ((V 4 5) < 5) → Q (some (vI 0)) (upm V 4 8 (w32 (5 + (w32 (16 * (V 1 5))))))))) : Wf K (d + 1) mX5_takePart 74 [some (vR 4), some (vR 1), some (vI x2), none] [] V Q := by
  refine wp_aload_n dX5_takePart_74 rfl rfl ?_
  refine wp_getI dX5_takePart_75 fX5_181 rfl sh4 (by decide) ?_
  refine wp_iconst dX5_takePart_78 (by decide) ?_
  refine wp_icmp_lt (tgt := 89) dX5_takePart_79 rfl (fun c1 => ?_) (fun c1 => ?_)
  ·
    refine wp_iload_n dX5_takePart_89 rfl rfl ?_
    refine wp_if_eq (tgt := 113) dX5_takePart_90 rfl (fun c2 => ?_) (fun c2 => ?_)
    ·
      refine wp_aload_n dX5_takePart_113 rfl rfl ?_
      refine wp_getR (b := 35) dX5_takePart_114 fX5_21 rfl sh4 (by decide) rfl ?_
      refine wp_aload_n dX5_takePart_117 rfl rfl ?_
      refine wp_getI dX5_takePart_118 fX5_60 rfl sh1 (by decide) ?_
      refine wp_iconst dX5_takePart_121 (by decide) ?_
      refine wp_icmp_ne (tgt := 132) dX5_takePart_122 rfl (fun c3 => ?_) (fun c3 => ?_)
      ·
        refine wp_aload_n dX5_takePart_132 rfl rfl ?_
        refine wp_getI dX5_takePart_133 fX5_77 rfl sh1 (by decide) ?_
        refine wp_ineg dX5_takePart_136 ?_
        exact wp_loc (L2 := [some (vR 4), none, none, none]) ⟨rfl, trivial⟩ (((h.1 c1).1 c2).1 c3)
      ·
        refine wp_aload_n dX5_takePart_125 rfl rfl ?_
        refine wp_getI dX5_takePart_126 fX5_129 rfl sh1 (by decide) ?_
        refine wp_goto (tgt := 137) dX5_takePart_129 rfl ?_
        exact wp_loc (L2 := [some (vR 4), none, none, none]) ⟨rfl, trivial⟩ (((h.1 c1).1 c2).2 c3)
    ·
      refine wp_aload_n dX5_takePart_93 rfl rfl ?_
      refine wp_aload_n dX5_takePart_94 rfl rfl ?_
      refine wp_getI dX5_takePart_95 fX5_77 rfl sh1 (by decide) ?_
      refine wp_callV (S := []) (as := [vI (V 1 7)]) dX5_takePart_98 lX5_199 (((h.1 c1).2 c2)) (by omega) sh4 rfl rfl (Nat.le_of_ble_eq_true rfl) ⟨Nat.le_refl _, Nat.le_refl _⟩ ?_
      rintro _ _ V4 ⟨rfl, rfl, q4⟩
      show Wp _ _ _ _ _ 101 _ [] _ _ _ _ _
      refine wp_aload_n dX5_takePart_101 rfl rfl ?_
      refine wp_dup dX5_takePart_102 rfl ?_
      refine wp_getI dX5_takePart_103 fX5_181 rfl sh4 (by decide) ?_
      refine wp_iconst dX5_takePart_106 (by decide) ?_
      refine wp_iadd dX5_takePart_107 ?_
      refine wp_putI dX5_takePart_108 fwX5_181 rfl sh4 (by decide) ?_
      refine wp_iconst dX5_takePart_111 (by decide) ?_
      exact wp_zreturn dX5_takePart_112 rfl ⟨rfl, rfl⟩ (by decide) ⟨rfl, q4⟩
  ·
    refine wp_aload_n dX5_takePart_82 rfl rfl ?_
    refine wp_aload_n dX5_takePart_83 rfl rfl ?_
    refine wp_iconst dX5_takePart_84 (by decide) ?_
    refine wp_inlV (d' := d) (S := []) (as := [vR 1, vI 5]) dX5_takePart_85 lX5_89 (by omega) sh4 rfl rfl (Nat.le_of_ble_eq_true rfl) ⟨Nat.le_refl _, Nat.le_refl _⟩ (Mt.of2 (L := [some (vR 4), some (vR 1), some (vI 5)]) pnX5 rfl rfl ?_)
    refine wp_aload_n dX5_wrong_0 rfl rfl ?_
    refine wp_iload_n dX5_wrong_1 rfl rfl ?_
    refine wp_bipush dX5_wrong_2 (by decide) ?_
    refine wp_aload_n dX5_wrong_4 rfl rfl ?_
    refine wp_getI dX5_wrong_5 fX5_74 rfl sh1 (by decide) ?_
    refine wp_imul dX5_wrong_8 ?_
    refine wp_iadd dX5_wrong_9 ?_
    refine wp_putI dX5_wrong_10 fwX5_48 rfl sh4 (by decide) ?_
    refine wp_iconst dX5_wrong_13 (by decide) ?_
    refine wp_zreturn dX5_wrong_14 rfl ⟨rfl, rfl⟩ (by decide) ?_
    show Wp _ _ _ _ _ 88 _ [vI 0] _ _ _ _ _
    exact wp_zreturn dX5_takePart_88 rfl ⟨rfl, rfl⟩ (by decide) ⟨rfl, (h.2 c1)⟩
set_option maxHeartbeats 4000000 in
set_option maxRecDepth 10000 in
theorem sX5_takePart_137 {K : KK} {d : Nat} {V : Mem} {Q : Option AV → Mem → Prop} (s1 : Int) (h : Mf K d mX4_add [vR 35, vI s1] V (fun r V1 => r = none ∧ Mf K d mX5_releaseNots [vR 4] V1 (fun r V2 => r = none ∧ Q (some (vI 1)) (upm V2 4 6 0)))) : Wf K (d + 1) mX5_takePart 137 [some (vR 4), none, none, none] [vI s1, vR 35] V Q := by
  refine wp_callV (S := []) (as := [vI s1]) dX5_takePart_137 lX5_202 (h) (by omega) sh35 rfl rfl (Nat.le_of_ble_eq_true rfl) ⟨Nat.le_refl _, Nat.le_refl _⟩ ?_
  rintro _ _ V1 ⟨rfl, rfl, q1⟩
  show Wp _ _ _ _ _ 140 _ [] _ _ _ _ _
  refine wp_aload_n dX5_takePart_140 rfl rfl ?_
  refine wp_callV (S := []) (as := []) dX5_takePart_141 lX5_204 (q1) (by omega) sh4 rfl rfl (Nat.le_of_ble_eq_true rfl) ⟨Nat.le_refl _, Nat.le_refl _⟩ ?_
  rintro _ _ V2 ⟨rfl, rfl, q2⟩
  show Wp _ _ _ _ _ 144 _ [] _ _ _ _ _
  refine wp_aload_n dX5_takePart_144 rfl rfl ?_
  refine wp_iconst dX5_takePart_145 (by decide) ?_
  refine wp_putZ dX5_takePart_146 fwX5_184 rfl sh4 (by decide) (by decide) ?_
  refine wp_iconst dX5_takePart_149 (by decide) ?_
  exact wp_zreturn dX5_takePart_150 rfl ⟨rfl, rfl⟩ (by decide) ⟨rfl, q2⟩
set_option maxHeartbeats 4000000 in
set_option maxRecDepth 10000 in
theorem sX5_takeOperator {K : KK} {d : Nat} {V : Mem} {Q : Option AV → Mem → Prop}  (h : Mf K d mX5_rankOf [vI (V 1 7)] V (fun r V1 => ∃ z1, r = some (vI z1) ∧ ((¬ z1 = 0 → ((¬ z1 = 2 → Mf K d mX5_release [vR 4, vI z1] V1 (fun r V5 => r = none ∧ Mf K d mX5_hold [vR 4, vI (V5 1 7)] V5 (fun r V7 => r = none ∧ Q (some (vI 1)) (upm V7 4 6 1)))) ∧ (z1 = 2 → Mf K d mX5_release [vR 4, vI 3] V1 (fun r V9 => r = none ∧ (((V9 4 4) ≤ 0 → Mf K d mX5_hold [vR 4, vI (V9 1 7)] V9 (fun r V12 => r = none ∧ Q (some (vI 1)) (upm V12 4 6 1))) ∧ (¬ ((V9 4 4) ≤ 0) → (((0 : Int) ≤ (w32 ((V9 4 4) - 1)) ∧ (w32 ((V9 4 4) - 1)) < (32 : Nat)) ∧ Mf K d mX5_rankOf [vI (V9 42 (Int.toNat (w32 ((V9 4 4) - 1))))] V9 (fun r V13 => ∃ z13, r = some (vI z13) ∧ ((¬ z13 = 2 → Mf K d mX5_hold [vR 4, vI (V13 1 7)] V13 (fun r V15 => r = none ∧ Q (some (vI 1)) (upm V15 4 6 1))) ∧ (z13 = 2 → Q (some (vI 0)) (upm V13 4 8 (w32 (1 + (w32 (16 * (V13 1 5)))))))))))))))) ∧ (z1 = 0 → Q (some (vI 0)) (upm V1 4 8 (w32 (1 + (w32 (16 * (V1 1 5)))))))))) : Mf K (d + 1) mX5_takeOperator [vR 4, vR 1] V Q := by
  refine Mt.of2 (L := [some (vR 4), some (vR 1), none, none]) pnX5 rfl rfl ?_
  refine wp_aload_n dX5_takeOperator_0 rfl rfl ?_
  refine wp_getI dX5_takeOperator_1 fX5_77 rfl sh1 (by decide) ?_
  refine wp_callS (S := []) (as := [vI (V 1 7)]) dX5_takeOperator_4 lX5_207 (h) (by omega) rfl rfl (Nat.le_of_ble_eq_true rfl) ⟨Nat.le_refl _, Nat.le_refl _⟩ ?_
  rintro _ _ V1 ⟨rfl, z1, rfl, q1⟩
  show Wp _ _ _ _ _ 7 _ [vI z1] _ _ _ _ _
  refine wp_istore_n dX5_takeOperator_7 rfl (by decide) rfl ?_
  refine wp_iload_n dX5_takeOperator_8 rfl rfl ?_
  refine wp_if_ne (tgt := 19) dX5_takeOperator_9 rfl (fun c2 => ?_) (fun c2 => ?_)
  ·
    refine wp_iload_n dX5_takeOperator_19 rfl rfl ?_
    refine wp_iconst dX5_takeOperator_20 (by decide) ?_
    refine wp_icmp_ne (tgt := 28) dX5_takeOperator_21 rfl (fun c3 => ?_) (fun c3 => ?_)
    ·
      refine wp_iconst dX5_takeOperator_28 (by decide) ?_
      refine wp_istore_n dX5_takeOperator_29 rfl (by decide) rfl ?_
      refine wp_aload_n dX5_takeOperator_30 rfl rfl ?_
      refine wp_iload_n dX5_takeOperator_31 rfl rfl ?_
      refine wp_if_eq (tgt := 39) dX5_takeOperator_32 rfl (fun c4 => ?_) (fun c4 => False.elim (by revert c4; decide))
      refine wp_iload_n dX5_takeOperator_39 rfl rfl ?_
      refine wp_callV (S := []) (as := [vI z1]) dX5_takeOperator_40 lX5_190 (((q1.1 c2).1 c3)) (by omega) sh4 rfl rfl (Nat.le_of_ble_eq_true rfl) ⟨Nat.le_refl _, Nat.le_refl _⟩ ?_
      rintro _ _ V5 ⟨rfl, rfl, q5⟩
      show Wp _ _ _ _ _ 43 _ [] _ _ _ _ _
      refine wp_iload_n dX5_takeOperator_43 rfl rfl ?_
      refine wp_if_eq (tgt := 79) dX5_takeOperator_44 rfl (fun c6 => ?_) (fun c6 => False.elim (by revert c6; decide))
      refine wp_aload_n dX5_takeOperator_79 rfl rfl ?_
      refine wp_aload_n dX5_takeOperator_80 rfl rfl ?_
      refine wp_getI dX5_takeOperator_81 fX5_77 rfl sh1 (by decide) ?_
      refine wp_callV (S := []) (as := [vI (V5 1 7)]) dX5_takeOperator_84 lX5_199 (q5) (by omega) sh4 rfl rfl (Nat.le_of_ble_eq_true rfl) ⟨Nat.le_refl _, Nat.le_refl _⟩ ?_
      rintro _ _ V7 ⟨rfl, rfl, q7⟩
      show Wp _ _ _ _ _ 87 _ [] _ _ _ _ _
      refine wp_aload_n dX5_takeOperator_87 rfl rfl ?_
      refine wp_iconst dX5_takeOperator_88 (by decide) ?_
      refine wp_putZ dX5_takeOperator_89 fwX5_184 rfl sh4 (by decide) (by decide) ?_
      refine wp_iconst dX5_takeOperator_92 (by decide) ?_
      exact wp_zreturn dX5_takeOperator_93 rfl ⟨rfl, rfl⟩ (by decide) ⟨rfl, q7⟩
    ·
      refine wp_iconst dX5_takeOperator_24 (by decide) ?_
      refine wp_goto (tgt := 29) dX5_takeOperator_25 rfl ?_
      refine wp_istore_n dX5_takeOperator_29 rfl (by decide) rfl ?_
      refine wp_aload_n dX5_takeOperator_30 rfl rfl ?_
      refine wp_iload_n dX5_takeOperator_31 rfl rfl ?_
      refine wp_if_eq (tgt := 39) dX5_takeOperator_32 rfl (fun c8 => False.elim (by revert c8; decide)) (fun c8 => ?_)
      refine wp_iconst dX5_takeOperator_35 (by decide) ?_
      refine wp_goto (tgt := 40) dX5_takeOperator_36 rfl ?_
      refine wp_callV (S := []) (as := [vI 3]) dX5_takeOperator_40 lX5_190 (((q1.1 c2).2 c3)) (by omega) sh4 rfl rfl (Nat.le_of_ble_eq_true rfl) ⟨Nat.le_refl _, Nat.le_refl _⟩ ?_
      rintro _ _ V9 ⟨rfl, rfl, q9⟩
      show Wp _ _ _ _ _ 43 _ [] _ _ _ _ _
      refine wp_iload_n dX5_takeOperator_43 rfl rfl ?_
      refine wp_if_eq (tgt := 79) dX5_takeOperator_44 rfl (fun c10 => False.elim (by revert c10; decide)) (fun c10 => ?_)
      refine wp_aload_n dX5_takeOperator_47 rfl rfl ?_
      refine wp_getI dX5_takeOperator_48 fX5_178 rfl sh4 (by decide) ?_
      refine wp_if_le (tgt := 79) dX5_takeOperator_51 rfl (fun c11 => ?_) (fun c11 => ?_)
      ·
        refine wp_aload_n dX5_takeOperator_79 rfl rfl ?_
        refine wp_aload_n dX5_takeOperator_80 rfl rfl ?_
        refine wp_getI dX5_takeOperator_81 fX5_77 rfl sh1 (by decide) ?_
        refine wp_callV (S := []) (as := [vI (V9 1 7)]) dX5_takeOperator_84 lX5_199 ((q9.1 c11)) (by omega) sh4 rfl rfl (Nat.le_of_ble_eq_true rfl) ⟨Nat.le_refl _, Nat.le_refl _⟩ ?_
        rintro _ _ V12 ⟨rfl, rfl, q12⟩
        show Wp _ _ _ _ _ 87 _ [] _ _ _ _ _
        refine wp_aload_n dX5_takeOperator_87 rfl rfl ?_
        refine wp_iconst dX5_takeOperator_88 (by decide) ?_
        refine wp_putZ dX5_takeOperator_89 fwX5_184 rfl sh4 (by decide) (by decide) ?_
        refine wp_iconst dX5_takeOperator_92 (by decide) ?_
        exact wp_zreturn dX5_takeOperator_93 rfl ⟨rfl, rfl⟩ (by decide) ⟨rfl, q12⟩
      ·
        refine wp_aload_n dX5_takeOperator_54 rfl rfl ?_
        refine wp_getR (b := 42) dX5_takeOperator_55 fX5_34 rfl sh4 (by decide) rfl ?_
        refine wp_aload_n dX5_takeOperator_58 rfl rfl ?_
        refine wp_getI dX5_takeOperator_59 fX5_178 rfl sh4 (by decide) ?_
        refine wp_iconst dX5_takeOperator_62 (by decide) ?_
        refine wp_isub dX5_takeOperator_63 ?_
        refine wp_iald dX5_takeOperator_64 sh42 (q9.2 c11).1 ?_
        refine wp_callS (S := []) (as := [vI (V9 42 (Int.toNat (w32 ((V9 4 4) - 1))))]) dX5_takeOperator_65 lX5_207 ((q9.2 c11).2) (by omega) rfl rfl (Nat.le_of_ble_eq_true rfl) ⟨Nat.le_refl _, Nat.le_refl _⟩ ?_
        rintro _ _ V13 ⟨rfl, z13, rfl, q13⟩
        show Wp _ _ _ _ _ 68 _ [vI z13] _ _ _ _ _
        refine wp_iconst dX5_takeOperator_68 (by decide) ?_
        refine wp_icmp_ne (tgt := 79) dX5_takeOperator_69 rfl (fun c14 => ?_) (fun c14 => ?_)
        ·
          refine wp_aload_n dX5_takeOperator_79 rfl rfl ?_
          refine wp_aload_n dX5_takeOperator_80 rfl rfl ?_
          refine wp_getI dX5_takeOperator_81 fX5_77 rfl sh1 (by decide) ?_
          refine wp_callV (S := []) (as := [vI (V13 1 7)]) dX5_takeOperator_84 lX5_199 ((q13.1 c14)) (by omega) sh4 rfl rfl (Nat.le_of_ble_eq_true rfl) ⟨Nat.le_refl _, Nat.le_refl _⟩ ?_
          rintro _ _ V15 ⟨rfl, rfl, q15⟩
          show Wp _ _ _ _ _ 87 _ [] _ _ _ _ _
          refine wp_aload_n dX5_takeOperator_87 rfl rfl ?_
          refine wp_iconst dX5_takeOperator_88 (by decide) ?_
          refine wp_putZ dX5_takeOperator_89 fwX5_184 rfl sh4 (by decide) (by decide) ?_
          refine wp_iconst dX5_takeOperator_92 (by decide) ?_
          exact wp_zreturn dX5_takeOperator_93 rfl ⟨rfl, rfl⟩ (by decide) ⟨rfl, q15⟩
        ·
          refine wp_aload_n dX5_takeOperator_72 rfl rfl ?_
          refine wp_aload_n dX5_takeOperator_73 rfl rfl ?_
          refine wp_iconst dX5_takeOperator_74 (by decide) ?_
          refine wp_inlV (d' := d) (S := []) (as := [vR 1, vI 1]) dX5_takeOperator_75 lX5_89 (by omega) sh4 rfl rfl (Nat.le_of_ble_eq_true rfl) ⟨Nat.le_refl _, Nat.le_refl _⟩ (Mt.of2 (L := [some (vR 4), some (vR 1), some (vI 1)]) pnX5 rfl rfl ?_)
          refine wp_aload_n dX5_wrong_0 rfl rfl ?_
          refine wp_iload_n dX5_wrong_1 rfl rfl ?_
          refine wp_bipush dX5_wrong_2 (by decide) ?_
          refine wp_aload_n dX5_wrong_4 rfl rfl ?_
          refine wp_getI dX5_wrong_5 fX5_74 rfl sh1 (by decide) ?_
          refine wp_imul dX5_wrong_8 ?_
          refine wp_iadd dX5_wrong_9 ?_
          refine wp_putI dX5_wrong_10 fwX5_48 rfl sh4 (by decide) ?_
          refine wp_iconst dX5_wrong_13 (by decide) ?_
          refine wp_zreturn dX5_wrong_14 rfl ⟨rfl, rfl⟩ (by decide) ?_
          show Wp _ _ _ _ _ 78 _ [vI 0] _ _ _ _ _
          exact wp_zreturn dX5_takeOperator_78 rfl ⟨rfl, rfl⟩ (by decide) ⟨rfl, (q13.2 c14)⟩
  ·
    refine wp_aload_n dX5_takeOperator_12 rfl rfl ?_
    refine wp_aload_n dX5_takeOperator_13 rfl rfl ?_
    refine wp_iconst dX5_takeOperator_14 (by decide) ?_
    refine wp_inlV (d' := d) (S := []) (as := [vR 1, vI 1]) dX5_takeOperator_15 lX5_89 (by omega) sh4 rfl rfl (Nat.le_of_ble_eq_true rfl) ⟨Nat.le_refl _, Nat.le_refl _⟩ (Mt.of2 (L := [some (vR 4), some (vR 1), some (vI 1)]) pnX5 rfl rfl ?_)
    refine wp_aload_n dX5_wrong_0 rfl rfl ?_
    refine wp_iload_n dX5_wrong_1 rfl rfl ?_
    refine wp_bipush dX5_wrong_2 (by decide) ?_
    refine wp_aload_n dX5_wrong_4 rfl rfl ?_
    refine wp_getI dX5_wrong_5 fX5_74 rfl sh1 (by decide) ?_
    refine wp_imul dX5_wrong_8 ?_
    refine wp_iadd dX5_wrong_9 ?_
    refine wp_putI dX5_wrong_10 fwX5_48 rfl sh4 (by decide) ?_
    refine wp_iconst dX5_wrong_13 (by decide) ?_
    refine wp_zreturn dX5_wrong_14 rfl ⟨rfl, rfl⟩ (by decide) ?_
    show Wp _ _ _ _ _ 18 _ [vI 0] _ _ _ _ _
    exact wp_zreturn dX5_takeOperator_18 rfl ⟨rfl, rfl⟩ (by decide) ⟨rfl, (q1.2 c2)⟩
set_option maxHeartbeats 4000000 in
set_option maxRecDepth 10000 in
theorem sX5_closeBracket {K : KK} {d : Nat} {V : Mem} {Q : Option AV → Mem → Prop}  (h : Mf K d mX5_release [vR 4, vI 1] V (fun r V1 => r = none ∧ ((¬ (V1 4 4) = 0 → Mf K d mX5_releaseNots [vR 4] (upm (upm V1 4 4 (w32 ((V1 4 4) - 1))) 4 5 (w32 (((upm V1 4 4 (w32 ((V1 4 4) - 1))) 4 5) - 1))) (fun r V3 => r = none ∧ Q (some (vI 1)) V3)) ∧ ((V1 4 4) = 0 → Q (some (vI 0)) (upm V1 4 8 (w32 (1 + (w32 (16 * (V1 1 5)))))))))) : Mf K (d + 1) mX5_closeBracket [vR 4, vR 1] V Q := by
  refine Mt.of2 (L := [some (vR 4), some (vR 1)]) pnX5 rfl rfl ?_
  refine wp_aload_n dX5_closeBracket_0 rfl rfl ?_
  refine wp_iconst dX5_closeBracket_1 (by decide) ?_
  refine wp_callV (S := []) (as := [vI 1]) dX5_closeBracket_2 lX5_190 (h) (by omega) sh4 rfl rfl (Nat.le_of_ble_eq_true rfl) ⟨Nat.le_refl _, Nat.le_refl _⟩ ?_
  rintro _ _ V1 ⟨rfl, rfl, q1⟩
  show Wp _ _ _ _ _ 5 _ [] _ _ _ _ _
  refine wp_aload_n dX5_closeBracket_5 rfl rfl ?_
  refine wp_getI dX5_closeBracket_6 fX5_178 rfl sh4 (by decide) ?_
  refine wp_if_ne (tgt := 19) dX5_closeBracket_9 rfl (fun c2 => ?_) (fun c2 => ?_)
  ·
    refine wp_aload_n dX5_closeBracket_19 rfl rfl ?_
    refine wp_dup dX5_closeBracket_20 rfl ?_
    refine wp_getI dX5_closeBracket_21 fX5_178 rfl sh4 (by decide) ?_
    refine wp_iconst dX5_closeBracket_24 (by decide) ?_
    refine wp_isub dX5_closeBracket_25 ?_
    refine wp_putI dX5_closeBracket_26 fwX5_178 rfl sh4 (by decide) ?_
    refine wp_aload_n dX5_closeBracket_29 rfl rfl ?_
    refine wp_dup dX5_closeBracket_30 rfl ?_
    refine wp_getI dX5_closeBracket_31 fX5_181 rfl sh4 (by decide) ?_
    refine wp_iconst dX5_closeBracket_34 (by decide) ?_
    refine wp_isub dX5_closeBracket_35 ?_
    refine wp_putI dX5_closeBracket_36 fwX5_181 rfl sh4 (by decide) ?_
    refine wp_aload_n dX5_closeBracket_39 rfl rfl ?_
    refine wp_callV (S := []) (as := []) dX5_closeBracket_40 lX5_204 ((q1.1 c2)) (by omega) sh4 rfl rfl (Nat.le_of_ble_eq_true rfl) ⟨Nat.le_refl _, Nat.le_refl _⟩ ?_
    rintro _ _ V3 ⟨rfl, rfl, q3⟩
    show Wp _ _ _ _ _ 43 _ [] _ _ _ _ _
    refine wp_iconst dX5_closeBracket_43 (by decide) ?_
    exact wp_zreturn dX5_closeBracket_44 rfl ⟨rfl, rfl⟩ (by decide) ⟨rfl, q3⟩
  ·
    refine wp_aload_n dX5_closeBracket_12 rfl rfl ?_
    refine wp_aload_n dX5_closeBracket_13 rfl rfl ?_
    refine wp_iconst dX5_closeBracket_14 (by decide) ?_
    refine wp_inlV (d' := d) (S := []) (as := [vR 1, vI 1]) dX5_closeBracket_15 lX5_89 (by omega) sh4 rfl rfl (Nat.le_of_ble_eq_true rfl) ⟨Nat.le_refl _, Nat.le_refl _⟩ (Mt.of2 (L := [some (vR 4), some (vR 1), some (vI 1)]) pnX5 rfl rfl ?_)
    refine wp_aload_n dX5_wrong_0 rfl rfl ?_
    refine wp_iload_n dX5_wrong_1 rfl rfl ?_
    refine wp_bipush dX5_wrong_2 (by decide) ?_
    refine wp_aload_n dX5_wrong_4 rfl rfl ?_
    refine wp_getI dX5_wrong_5 fX5_74 rfl sh1 (by decide) ?_
    refine wp_imul dX5_wrong_8 ?_
    refine wp_iadd dX5_wrong_9 ?_
    refine wp_putI dX5_wrong_10 fwX5_48 rfl sh4 (by decide) ?_
    refine wp_iconst dX5_wrong_13 (by decide) ?_
    refine wp_zreturn dX5_wrong_14 rfl ⟨rfl, rfl⟩ (by decide) ?_
    show Wp _ _ _ _ _ 18 _ [vI 0] _ _ _ _ _
    exact wp_zreturn dX5_closeBracket_18 rfl ⟨rfl, rfl⟩ (by decide) ⟨rfl, (q1.2 c2)⟩
set_option maxHeartbeats 4000000 in
set_option maxRecDepth 10000 in
theorem sX5_hold {K : KK} {d : Nat} {V : Mem} {Q : Option AV → Mem → Prop} (x1 : Int) (h : (((V 4 4) < 0 → Q none V) ∧ (¬ ((V 4 4) < 0) → ((32 ≤ (V 4 4) → Q none V) ∧ (¬ (32 ≤ (V 4 4)) → (((0 : Int) ≤ (V 4 4) ∧ (V 4 4) < (32 : Nat)) ∧ Q none (upm (upm V 42 (Int.toNat (V 4 4)) x1) 4 4 (w32 (((upm V 42 (Int.toNat (V 4 4)) x1) 4 4) + 1))))))))) : Mf K d mX5_hold [vR 4, vI x1] V Q := by
  refine Mt.of2 (L := [some (vR 4), some (vI x1)]) pnX5 rfl rfl ?_
  refine wp_aload_n dX5_hold_0 rfl rfl ?_
  refine wp_getI dX5_hold_1 fX5_178 rfl sh4 (by decide) ?_
  refine wp_if_lt (tgt := 39) dX5_hold_4 rfl (fun c1 => ?_) (fun c1 => ?_)
  ·
    exact wp_return dX5_hold_39 rfl ⟨rfl, rfl⟩ ⟨rfl, (h.1 c1)⟩
  ·
    refine wp_aload_n dX5_hold_7 rfl rfl ?_
    refine wp_getI dX5_hold_8 fX5_178 rfl sh4 (by decide) ?_
    refine wp_aload_n dX5_hold_11 rfl rfl ?_
    refine wp_getR (b := 42) dX5_hold_12 fX5_34 rfl sh4 (by decide) rfl ?_
    refine wp_alen dX5_hold_15 sh42 (by decide) (by decide) ?_
    refine wp_icmp_ge (tgt := 39) dX5_hold_16 rfl (fun c2 => ?_) (fun c2 => ?_)
    ·
      exact wp_return dX5_hold_39 rfl ⟨rfl, rfl⟩ ⟨rfl, ((h.2 c1).1 c2)⟩
    ·
      refine wp_aload_n dX5_hold_19 rfl rfl ?_
      refine wp_getR (b := 42) dX5_hold_20 fX5_34 rfl sh4 (by decide) rfl ?_
      refine wp_aload_n dX5_hold_23 rfl rfl ?_
      refine wp_getI dX5_hold_24 fX5_178 rfl sh4 (by decide) ?_
      refine wp_iload_n dX5_hold_27 rfl rfl ?_
      refine wp_iast dX5_hold_28 sh42 ((h.2 c1).2 c2).1 ?_
      refine wp_aload_n dX5_hold_29 rfl rfl ?_
      refine wp_dup dX5_hold_30 rfl ?_
      refine wp_getI dX5_hold_31 fX5_178 rfl sh4 (by decide) ?_
      refine wp_iconst dX5_hold_34 (by decide) ?_
      refine wp_iadd dX5_hold_35 ?_
      refine wp_putI dX5_hold_36 fwX5_178 rfl sh4 (by decide) ?_
      exact wp_return dX5_hold_39 rfl ⟨rfl, rfl⟩ ⟨rfl, ((h.2 c1).2 c2).2⟩
set_option maxHeartbeats 4000000 in
set_option maxRecDepth 10000 in
theorem sX5_release {K : KK} {d : Nat} {V : Mem} {Q : Option AV → Mem → Prop} (x1 : Int) (h : (((V 4 4) ≤ 0 → Q none V) ∧ (¬ ((V 4 4) ≤ 0) → (((0 : Int) ≤ (w32 ((V 4 4) - 1)) ∧ (w32 ((V 4 4) - 1)) < (32 : Nat)) ∧ Mf K d mX5_rankOf [vI (V 42 (Int.toNat (w32 ((V 4 4) - 1))))] V (fun r V2 => ∃ z2, r = some (vI z2) ∧ ((z2 < x1 → Q none V2) ∧ (¬ (z2 < x1) → (((0 : Int) ≤ ((upm V2 4 4 (w32 ((V2 4 4) - 1))) 4 4) ∧ ((upm V2 4 4 (w32 ((V2 4 4) - 1))) 4 4) < (32 : Nat)) ∧ Mf K d mX4_add [vR 35, vI (w32 (- ((upm V2 4 4 (w32 ((V2 4 4) - 1))) 42 (Int.toNat ((upm V2 4 4 (w32 ((V2 4 4) - 1))) 4 4)))))] (upm V2 4 4 (w32 ((V2 4 4) - 1))) (fun r V4 => r = none ∧ Wf K (d + 1) mX5_release 0 [some (vR 4), some (vI x1)] [] V4 Q))))))))) : Mf K (d + 1) mX5_release [vR 4, vI x1] V Q := by
  refine Mt.of2 (L := [some (vR 4), some (vI x1)]) pnX5 rfl rfl ?_
  refine wp_aload_n dX5_release_0 rfl rfl ?_
  refine wp_getI dX5_release_1 fX5_178 rfl sh4 (by decide) ?_
  refine wp_if_le (tgt := 55) dX5_release_4 rfl (fun c1 => ?_) (fun c1 => ?_)
  ·
    exact wp_return dX5_release_55 rfl ⟨rfl, rfl⟩ ⟨rfl, (h.1 c1)⟩
  ·
    refine wp_aload_n dX5_release_7 rfl rfl ?_
    refine wp_getR (b := 42) dX5_release_8 fX5_34 rfl sh4 (by decide) rfl ?_
    refine wp_aload_n dX5_release_11 rfl rfl ?_
    refine wp_getI dX5_release_12 fX5_178 rfl sh4 (by decide) ?_
    refine wp_iconst dX5_release_15 (by decide) ?_
    refine wp_isub dX5_release_16 ?_
    refine wp_iald dX5_release_17 sh42 (h.2 c1).1 ?_
    refine wp_callS (S := []) (as := [vI (V 42 (Int.toNat (w32 ((V 4 4) - 1))))]) dX5_release_18 lX5_207 ((h.2 c1).2) (by omega) rfl rfl (Nat.le_of_ble_eq_true rfl) ⟨Nat.le_refl _, Nat.le_refl _⟩ ?_
    rintro _ _ V2 ⟨rfl, z2, rfl, q2⟩
    show Wp _ _ _ _ _ 21 _ [vI z2] _ _ _ _ _
    refine wp_iload_n dX5_release_21 rfl rfl ?_
    refine wp_icmp_lt (tgt := 55) dX5_release_22 rfl (fun c3 => ?_) (fun c3 => ?_)
    ·
      exact wp_return dX5_release_55 rfl ⟨rfl, rfl⟩ ⟨rfl, (q2.1 c3)⟩
    ·
      refine wp_aload_n dX5_release_25 rfl rfl ?_
      refine wp_dup dX5_release_26 rfl ?_
      refine wp_getI dX5_release_27 fX5_178 rfl sh4 (by decide) ?_
      refine wp_iconst dX5_release_30 (by decide) ?_
      refine wp_isub dX5_release_31 ?_
      refine wp_putI dX5_release_32 fwX5_178 rfl sh4 (by decide) ?_
      refine wp_aload_n dX5_release_35 rfl rfl ?_
      refine wp_getR (b := 35) dX5_release_36 fX5_21 rfl sh4 (by decide) rfl ?_
      refine wp_aload_n dX5_release_39 rfl rfl ?_
      refine wp_getR (b := 42) dX5_release_40 fX5_34 rfl sh4 (by decide) rfl ?_
      refine wp_aload_n dX5_release_43 rfl rfl ?_
      refine wp_getI dX5_release_44 fX5_178 rfl sh4 (by decide) ?_
      refine wp_iald dX5_release_47 sh42 (q2.2 c3).1 ?_
      refine wp_ineg dX5_release_48 ?_
      refine wp_callV (S := []) (as := [vI (w32 (- ((upm V2 4 4 (w32 ((V2 4 4) - 1))) 42 (Int.toNat ((upm V2 4 4 (w32 ((V2 4 4) - 1))) 4 4)))))]) dX5_release_49 lX5_202 ((q2.2 c3).2) (by omega) sh35 rfl rfl (Nat.le_of_ble_eq_true rfl) ⟨Nat.le_refl _, Nat.le_refl _⟩ ?_
      rintro _ _ V4 ⟨rfl, rfl, q4⟩
      show Wp _ _ _ _ _ 52 _ [] _ _ _ _ _
      refine wp_goto (tgt := 0) dX5_release_52 rfl ?_
      exact q4
set_option maxHeartbeats 4000000 in
set_option maxRecDepth 10000 in
theorem sX5_release_0 {K : KK} {d : Nat} {V : Mem} {Q : Option AV → Mem → Prop} (x1 : Int) (h : (((V 4 4) ≤ 0 → Q none V) ∧ (¬ ((V 4 4) ≤ 0) → (((0 : Int) ≤ (w32 ((V 4 4) - 1)) ∧ (w32 ((V 4 4) - 1)) < (32 : Nat)) ∧ Mf K d mX5_rankOf [vI (V 42 (Int.toNat (w32 ((V 4 4) - 1))))] V (fun r V2 => ∃ z2, r = some (vI z2) ∧ ((z2 < x1 → Q none V2) ∧ (¬ (z2 < x1) → (((0 : Int) ≤ ((upm V2 4 4 (w32 ((V2 4 4) - 1))) 4 4) ∧ ((upm V2 4 4 (w32 ((V2 4 4) - 1))) 4 4) < (32 : Nat)) ∧ Mf K d mX4_add [vR 35, vI (w32 (- ((upm V2 4 4 (w32 ((V2 4 4) - 1))) 42 (Int.toNat ((upm V2 4 4 (w32 ((V2 4 4) - 1))) 4 4)))))] (upm V2 4 4 (w32 ((V2 4 4) - 1))) (fun r V4 => r = none ∧ Wf K (d + 1) mX5_release 0 [some (vR 4), some (vI x1)] [] V4 Q))))))))) : Wf K (d + 1) mX5_release 0 [some (vR 4), some (vI x1)] [] V Q := by
  refine wp_aload_n dX5_release_0 rfl rfl ?_
  refine wp_getI dX5_release_1 fX5_178 rfl sh4 (by decide) ?_
  refine wp_if_le (tgt := 55) dX5_release_4 rfl (fun c1 => ?_) (fun c1 => ?_)
  ·
    exact wp_return dX5_release_55 rfl ⟨rfl, rfl⟩ ⟨rfl, (h.1 c1)⟩
  ·
    refine wp_aload_n dX5_release_7 rfl rfl ?_
    refine wp_getR (b := 42) dX5_release_8 fX5_34 rfl sh4 (by decide) rfl ?_
    refine wp_aload_n dX5_release_11 rfl rfl ?_
    refine wp_getI dX5_release_12 fX5_178 rfl sh4 (by decide) ?_
    refine wp_iconst dX5_release_15 (by decide) ?_
    refine wp_isub dX5_release_16 ?_
    refine wp_iald dX5_release_17 sh42 (h.2 c1).1 ?_
    refine wp_callS (S := []) (as := [vI (V 42 (Int.toNat (w32 ((V 4 4) - 1))))]) dX5_release_18 lX5_207 ((h.2 c1).2) (by omega) rfl rfl (Nat.le_of_ble_eq_true rfl) ⟨Nat.le_refl _, Nat.le_refl _⟩ ?_
    rintro _ _ V2 ⟨rfl, z2, rfl, q2⟩
    show Wp _ _ _ _ _ 21 _ [vI z2] _ _ _ _ _
    refine wp_iload_n dX5_release_21 rfl rfl ?_
    refine wp_icmp_lt (tgt := 55) dX5_release_22 rfl (fun c3 => ?_) (fun c3 => ?_)
    ·
      exact wp_return dX5_release_55 rfl ⟨rfl, rfl⟩ ⟨rfl, (q2.1 c3)⟩
    ·
      refine wp_aload_n dX5_release_25 rfl rfl ?_
      refine wp_dup dX5_release_26 rfl ?_
      refine wp_getI dX5_release_27 fX5_178 rfl sh4 (by decide) ?_
      refine wp_iconst dX5_release_30 (by decide) ?_
      refine wp_isub dX5_release_31 ?_
      refine wp_putI dX5_release_32 fwX5_178 rfl sh4 (by decide) ?_
      refine wp_aload_n dX5_release_35 rfl rfl ?_
      refine wp_getR (b := 35) dX5_release_36 fX5_21 rfl sh4 (by decide) rfl ?_
      refine wp_aload_n dX5_release_39 rfl rfl ?_
      refine wp_getR (b := 42) dX5_release_40 fX5_34 rfl sh4 (by decide) rfl ?_
      refine wp_aload_n dX5_release_43 rfl rfl ?_
      refine wp_getI dX5_release_44 fX5_178 rfl sh4 (by decide) ?_
      refine wp_iald dX5_release_47 sh42 (q2.2 c3).1 ?_
      refine wp_ineg dX5_release_48 ?_
      refine wp_callV (S := []) (as := [vI (w32 (- ((upm V2 4 4 (w32 ((V2 4 4) - 1))) 42 (Int.toNat ((upm V2 4 4 (w32 ((V2 4 4) - 1))) 4 4)))))]) dX5_release_49 lX5_202 ((q2.2 c3).2) (by omega) sh35 rfl rfl (Nat.le_of_ble_eq_true rfl) ⟨Nat.le_refl _, Nat.le_refl _⟩ ?_
      rintro _ _ V4 ⟨rfl, rfl, q4⟩
      show Wp _ _ _ _ _ 52 _ [] _ _ _ _ _
      refine wp_goto (tgt := 0) dX5_release_52 rfl ?_
      exact q4
set_option maxHeartbeats 4000000 in
set_option maxRecDepth 10000 in
theorem sX5_releaseNots {K : KK} {d : Nat} {V : Mem} {Q : Option AV → Mem → Prop}  (h : (((V 4 4) ≤ 0 → Q none V) ∧ (¬ ((V 4 4) ≤ 0) → (((0 : Int) ≤ (w32 ((V 4 4) - 1)) ∧ (w32 ((V 4 4) - 1)) < (32 : Nat)) ∧ ((¬ (V 42 (Int.toNat (w32 ((V 4 4) - 1)))) = 140 → Q none V) ∧ ((V 42 (Int.toNat (w32 ((V 4 4) - 1)))) = 140 → Mf K d mX4_add [vR 35, vI (-140)] (upm (upm V 4 4 (w32 ((V 4 4) - 1))) 4 5 (w32 (((upm V 4 4 (w32 ((V 4 4) - 1))) 4 5) - 1))) (fun r V3 => r = none ∧ Wf K (d + 1) mX5_releaseNots 0 [some (vR 4)] [] V3 Q))))))) : Mf K (d + 1) mX5_releaseNots [vR 4] V Q := by
  refine Mt.of2 (L := [some (vR 4)]) pnX5 rfl rfl ?_
  refine wp_aload_n dX5_releaseNots_0 rfl rfl ?_
  refine wp_getI dX5_releaseNots_1 fX5_178 rfl sh4 (by decide) ?_
  refine wp_if_le (tgt := 57) dX5_releaseNots_4 rfl (fun c1 => ?_) (fun c1 => ?_)
  ·
    exact wp_return dX5_releaseNots_57 rfl ⟨rfl, rfl⟩ ⟨rfl, (h.1 c1)⟩
  ·
    refine wp_aload_n dX5_releaseNots_7 rfl rfl ?_
    refine wp_getR (b := 42) dX5_releaseNots_8 fX5_34 rfl sh4 (by decide) rfl ?_
    refine wp_aload_n dX5_releaseNots_11 rfl rfl ?_
    refine wp_getI dX5_releaseNots_12 fX5_178 rfl sh4 (by decide) ?_
    refine wp_iconst dX5_releaseNots_15 (by decide) ?_
    refine wp_isub dX5_releaseNots_16 ?_
    refine wp_iald dX5_releaseNots_17 sh42 (h.2 c1).1 ?_
    refine wp_sipush dX5_releaseNots_18 (by decide) ?_
    refine wp_icmp_ne (tgt := 57) dX5_releaseNots_21 rfl (fun c2 => ?_) (fun c2 => ?_)
    ·
      exact wp_return dX5_releaseNots_57 rfl ⟨rfl, rfl⟩ ⟨rfl, ((h.2 c1).2.1 c2)⟩
    ·
      refine wp_aload_n dX5_releaseNots_24 rfl rfl ?_
      refine wp_dup dX5_releaseNots_25 rfl ?_
      refine wp_getI dX5_releaseNots_26 fX5_178 rfl sh4 (by decide) ?_
      refine wp_iconst dX5_releaseNots_29 (by decide) ?_
      refine wp_isub dX5_releaseNots_30 ?_
      refine wp_putI dX5_releaseNots_31 fwX5_178 rfl sh4 (by decide) ?_
      refine wp_aload_n dX5_releaseNots_34 rfl rfl ?_
      refine wp_dup dX5_releaseNots_35 rfl ?_
      refine wp_getI dX5_releaseNots_36 fX5_181 rfl sh4 (by decide) ?_
      refine wp_iconst dX5_releaseNots_39 (by decide) ?_
      refine wp_isub dX5_releaseNots_40 ?_
      refine wp_putI dX5_releaseNots_41 fwX5_181 rfl sh4 (by decide) ?_
      refine wp_aload_n dX5_releaseNots_44 rfl rfl ?_
      refine wp_getR (b := 35) dX5_releaseNots_45 fX5_21 rfl sh4 (by decide) rfl ?_
      refine wp_sipush dX5_releaseNots_48 (by decide) ?_
      refine wp_callV (S := []) (as := [vI (-140)]) dX5_releaseNots_51 lX5_202 (((h.2 c1).2.2 c2)) (by omega) sh35 rfl rfl (Nat.le_of_ble_eq_true rfl) ⟨Nat.le_refl _, Nat.le_refl _⟩ ?_
      rintro _ _ V3 ⟨rfl, rfl, q3⟩
      show Wp _ _ _ _ _ 54 _ [] _ _ _ _ _
      refine wp_goto (tgt := 0) dX5_releaseNots_54 rfl ?_
      exact q3
set_option maxHeartbeats 4000000 in
set_option maxRecDepth 10000 in
theorem sX5_releaseNots_0 {K : KK} {d : Nat} {V : Mem} {Q : Option AV → Mem → Prop}  (h : (((V 4 4) ≤ 0 → Q none V) ∧ (¬ ((V 4 4) ≤ 0) → (((0 : Int) ≤ (w32 ((V 4 4) - 1)) ∧ (w32 ((V 4 4) - 1)) < (32 : Nat)) ∧ ((¬ (V 42 (Int.toNat (w32 ((V 4 4) - 1)))) = 140 → Q none V) ∧ ((V 42 (Int.toNat (w32 ((V 4 4) - 1)))) = 140 → Mf K d mX4_add [vR 35, vI (-140)] (upm (upm V 4 4 (w32 ((V 4 4) - 1))) 4 5 (w32 (((upm V 4 4 (w32 ((V 4 4) - 1))) 4 5) - 1))) (fun r V3 => r = none ∧ Wf K (d + 1) mX5_releaseNots 0 [some (vR 4)] [] V3 Q))))))) : Wf K (d + 1) mX5_releaseNots 0 [some (vR 4)] [] V Q := by
  refine wp_aload_n dX5_releaseNots_0 rfl rfl ?_
  refine wp_getI dX5_releaseNots_1 fX5_178 rfl sh4 (by decide) ?_
  refine wp_if_le (tgt := 57) dX5_releaseNots_4 rfl (fun c1 => ?_) (fun c1 => ?_)
  ·
    exact wp_return dX5_releaseNots_57 rfl ⟨rfl, rfl⟩ ⟨rfl, (h.1 c1)⟩
  ·
    refine wp_aload_n dX5_releaseNots_7 rfl rfl ?_
    refine wp_getR (b := 42) dX5_releaseNots_8 fX5_34 rfl sh4 (by decide) rfl ?_
    refine wp_aload_n dX5_releaseNots_11 rfl rfl ?_
    refine wp_getI dX5_releaseNots_12 fX5_178 rfl sh4 (by decide) ?_
    refine wp_iconst dX5_releaseNots_15 (by decide) ?_
    refine wp_isub dX5_releaseNots_16 ?_
    refine wp_iald dX5_releaseNots_17 sh42 (h.2 c1).1 ?_
    refine wp_sipush dX5_releaseNots_18 (by decide) ?_
    refine wp_icmp_ne (tgt := 57) dX5_releaseNots_21 rfl (fun c2 => ?_) (fun c2 => ?_)
    ·
      exact wp_return dX5_releaseNots_57 rfl ⟨rfl, rfl⟩ ⟨rfl, ((h.2 c1).2.1 c2)⟩
    ·
      refine wp_aload_n dX5_releaseNots_24 rfl rfl ?_
      refine wp_dup dX5_releaseNots_25 rfl ?_
      refine wp_getI dX5_releaseNots_26 fX5_178 rfl sh4 (by decide) ?_
      refine wp_iconst dX5_releaseNots_29 (by decide) ?_
      refine wp_isub dX5_releaseNots_30 ?_
      refine wp_putI dX5_releaseNots_31 fwX5_178 rfl sh4 (by decide) ?_
      refine wp_aload_n dX5_releaseNots_34 rfl rfl ?_
      refine wp_dup dX5_releaseNots_35 rfl ?_
      refine wp_getI dX5_releaseNots_36 fX5_181 rfl sh4 (by decide) ?_
      refine wp_iconst dX5_releaseNots_39 (by decide) ?_
      refine wp_isub dX5_releaseNots_40 ?_
      refine wp_putI dX5_releaseNots_41 fwX5_181 rfl sh4 (by decide) ?_
      refine wp_aload_n dX5_releaseNots_44 rfl rfl ?_
      refine wp_getR (b := 35) dX5_releaseNots_45 fX5_21 rfl sh4 (by decide) rfl ?_
      refine wp_sipush dX5_releaseNots_48 (by decide) ?_
      refine wp_callV (S := []) (as := [vI (-140)]) dX5_releaseNots_51 lX5_202 (((h.2 c1).2.2 c2)) (by omega) sh35 rfl rfl (Nat.le_of_ble_eq_true rfl) ⟨Nat.le_refl _, Nat.le_refl _⟩ ?_
      rintro _ _ V3 ⟨rfl, rfl, q3⟩
      show Wp _ _ _ _ _ 54 _ [] _ _ _ _ _
      refine wp_goto (tgt := 0) dX5_releaseNots_54 rfl ?_
      exact q3
set_option maxHeartbeats 4000000 in
set_option maxRecDepth 10000 in
theorem sX5_rankOf {K : KK} {d : Nat} {V : Mem} {Q : Option AV → Mem → Prop} (x0 : Int) (h : ((x0 = 42 → Q (some (vI 4)) V) ∧ (x0 = 43 → Q (some (vI 3)) V) ∧ (x0 = 45 → Q (some (vI 3)) V) ∧ (x0 = 60 → Q (some (vI 2)) V) ∧ (x0 = 61 → Q (some (vI 2)) V) ∧ (x0 = 141 → Q (some (vI 1)) V) ∧ (x0 = 142 → Q (some (vI 1)) V) ∧ ((¬ x0 = 42 ∧ ¬ x0 = 43 ∧ ¬ x0 = 45 ∧ ¬ x0 = 60 ∧ ¬ x0 = 61 ∧ ¬ x0 = 141 ∧ ¬ x0 = 142) → Q (some (vI 0)) V))) : Mf K d mX5_rankOf [vI x0] V Q := by
  refine Mt.of2 (L := [some (vI x0)]) pnX5 rfl rfl ?_
  refine wp_iload_n dX5_rankOf_0 rfl rfl ?_
  by_cases e1_0 : x0 = 42
  ·
    refine wp_lsw (tgt := 80) dX5_rankOf_1 (by decide) (by rw [e1_0] <;> rfl) rfl ?_
    refine wp_iconst dX5_rankOf_80 (by decide) ?_
    exact wp_ireturn dX5_rankOf_81 rfl ⟨rfl, rfl⟩ ⟨rfl, ((h.1) e1_0)⟩
  by_cases e1_1 : x0 = 43
  ·
    refine wp_lsw (tgt := 76) dX5_rankOf_1 (by decide) (by rw [e1_1] <;> rfl) rfl ?_
    refine wp_iconst dX5_rankOf_76 (by decide) ?_
    exact wp_ireturn dX5_rankOf_77 rfl ⟨rfl, rfl⟩ ⟨rfl, ((h.2.1) e1_1)⟩
  by_cases e1_2 : x0 = 45
  ·
    refine wp_lsw (tgt := 78) dX5_rankOf_1 (by decide) (by rw [e1_2] <;> rfl) rfl ?_
    refine wp_iconst dX5_rankOf_78 (by decide) ?_
    exact wp_ireturn dX5_rankOf_79 rfl ⟨rfl, rfl⟩ ⟨rfl, ((h.2.2.1) e1_2)⟩
  by_cases e1_3 : x0 = 60
  ·
    refine wp_lsw (tgt := 72) dX5_rankOf_1 (by decide) (by rw [e1_3] <;> rfl) rfl ?_
    refine wp_iconst dX5_rankOf_72 (by decide) ?_
    exact wp_ireturn dX5_rankOf_73 rfl ⟨rfl, rfl⟩ ⟨rfl, ((h.2.2.2.1) e1_3)⟩
  by_cases e1_4 : x0 = 61
  ·
    refine wp_lsw (tgt := 74) dX5_rankOf_1 (by decide) (by rw [e1_4] <;> rfl) rfl ?_
    refine wp_iconst dX5_rankOf_74 (by decide) ?_
    exact wp_ireturn dX5_rankOf_75 rfl ⟨rfl, rfl⟩ ⟨rfl, ((h.2.2.2.2.1) e1_4)⟩
  by_cases e1_5 : x0 = 141
  ·
    refine wp_lsw (tgt := 68) dX5_rankOf_1 (by decide) (by rw [e1_5] <;> rfl) rfl ?_
    refine wp_iconst dX5_rankOf_68 (by decide) ?_
    exact wp_ireturn dX5_rankOf_69 rfl ⟨rfl, rfl⟩ ⟨rfl, ((h.2.2.2.2.2.1) e1_5)⟩
  by_cases e1_6 : x0 = 142
  ·
    refine wp_lsw (tgt := 70) dX5_rankOf_1 (by decide) (by rw [e1_6] <;> rfl) rfl ?_
    refine wp_iconst dX5_rankOf_70 (by decide) ?_
    exact wp_ireturn dX5_rankOf_71 rfl ⟨rfl, rfl⟩ ⟨rfl, ((h.2.2.2.2.2.2.1) e1_6)⟩
  refine wp_lsw (off := 81) (tgt := 82) dX5_rankOf_1 (by decide) (by simp [Op.lookupswitch.offset, Ne.symm e1_0, Ne.symm e1_1, Ne.symm e1_2, Ne.symm e1_3, Ne.symm e1_4, Ne.symm e1_5, Ne.symm e1_6, e1_0, e1_1, e1_2, e1_3, e1_4, e1_5, e1_6]) rfl ?_
  refine wp_iconst dX5_rankOf_82 (by decide) ?_
  exact wp_ireturn dX5_rankOf_83 rfl ⟨rfl, rfl⟩ ⟨rfl, ((h.2.2.2.2.2.2.2) ⟨e1_0, e1_1, e1_2, e1_3, e1_4, e1_5, e1_6⟩)⟩
