/-! ===== segments X11, by program ===== -/
set_option maxHeartbeats 4000000 in
set_option maxRecDepth 10000 in
theorem sX11_feed {K : KK} {d : Nat} {V : Mem} {Q : Option AV → Mem → Prop} (j1 : Int) (j3 : Int) (j5 : Int) (h : Mf K d mX9_put [vR 1, vJ j1] V (fun r V1 => r = none ∧ Mf K d mX9_put [vR 1, vJ j3] V1 (fun r V2 => r = none ∧ Mf K d mX9_put [vR 1, vJ j5] V2 (fun r V3 => r = none ∧ Q (some (vI (V3 1 2))) V3)))) : Mf K (d + 1) mX11_feed [vR 0, vJ j1, vJ j3, vJ j5] V Q := by
  refine Mt.of2 (L := [some (vR 0), some (vJ j1), none, some (vJ j3), none, some (vJ j5), none]) pnX11 rfl rfl ?_
  refine wp_aload_n dX11_feed_0 rfl rfl ?_
  refine wp_getR (b := 1) dX11_feed_1 fX11_10 rfl sh0 (by decide) rfl ?_
  refine wp_lload_n dX11_feed_4 rfl rfl ?_
  refine wp_callV (S := []) (as := [vJ j1]) dX11_feed_5 lX11_105 (h) (by omega) sh1 rfl rfl (Nat.le_of_ble_eq_true rfl) ⟨Nat.le_refl _, Nat.le_refl _⟩ ?_
  rintro _ _ V1 ⟨rfl, rfl, q1⟩
  show Wp _ _ _ _ _ 8 _ [] _ _ _ _ _
  refine wp_aload_n dX11_feed_8 rfl rfl ?_
  refine wp_getR (b := 1) dX11_feed_9 fX11_10 rfl sh0 (by decide) rfl ?_
  refine wp_lload_n dX11_feed_12 rfl rfl ?_
  refine wp_callV (S := []) (as := [vJ j3]) dX11_feed_13 lX11_105 (q1) (by omega) sh1 rfl rfl (Nat.le_of_ble_eq_true rfl) ⟨Nat.le_refl _, Nat.le_refl _⟩ ?_
  rintro _ _ V2 ⟨rfl, rfl, q2⟩
  show Wp _ _ _ _ _ 16 _ [] _ _ _ _ _
  refine wp_aload_n dX11_feed_16 rfl rfl ?_
  refine wp_getR (b := 1) dX11_feed_17 fX11_10 rfl sh0 (by decide) rfl ?_
  refine wp_lload dX11_feed_20 rfl ?_
  refine wp_callV (S := []) (as := [vJ j5]) dX11_feed_22 lX11_105 (q2) (by omega) sh1 rfl rfl (Nat.le_of_ble_eq_true rfl) ⟨Nat.le_refl _, Nat.le_refl _⟩ ?_
  rintro _ _ V3 ⟨rfl, rfl, q3⟩
  show Wp _ _ _ _ _ 25 _ [] _ _ _ _ _
  refine wp_aload_n dX11_feed_25 rfl rfl ?_
  refine wp_getR (b := 1) dX11_feed_26 fX11_10 rfl sh0 (by decide) rfl ?_
  refine wp_getI dX11_feed_29 fX11_109 rfl sh1 (by decide) ?_
  exact wp_ireturn dX11_feed_32 rfl ⟨rfl, rfl⟩ ⟨rfl, q3⟩
set_option maxHeartbeats 4000000 in
set_option maxRecDepth 10000 in
theorem sX11_index {K : KK} {d : Nat} {V : Mem} {Q : Option AV → Mem → Prop} (hE : kE K = false) (h : Mf K (d + 1) mX5_readIndex [vR 4, vR 1] V (fun r V1 => ∃ z1, r = some (vI z1) ∧ ((z1 = 0 → Mf K (d + 1) mX7_copyFrom [vR 73, vR 5] (upm (upm V1 1 2 0) 1 3 0) (fun r V3 => r = none ∧ Mf K (d + 1) mX7_copyFrom [vR 43, vR 73] V3 (fun r V4 => r = none ∧ Wf K (d + 2) mX11_index 82 [some (vR 0), none, some (vI 0)] [] (upm (upm (upm (cpm V4 36 (Int.toNat 0) 136 (Int.toNat 0) (Int.toNat 1000)) 135 2 ((cpm V4 36 (Int.toNat 0) 136 (Int.toNat 0) (Int.toNat 1000)) 35 2)) 138 3 0) 142 3 0) Q))) ∧ (¬ (z1 = 0) → Q (some (vI z1)) (upm (upm V1 1 2 0) 1 3 0))))) : Mf K (d + 2) mX11_index [vR 0] V Q := by
  refine Mt.of2 (L := [some (vR 0), none, none]) pnX11 rfl rfl ?_
  refine wp_aload_n dX11_index_0 rfl rfl ?_
  refine wp_getR (b := 4) dX11_index_1 fX11_19 rfl sh0 (by decide) rfl ?_
  refine wp_aload_n dX11_index_4 rfl rfl ?_
  refine wp_getR (b := 1) dX11_index_5 fX11_10 rfl sh0 (by decide) rfl ?_
  refine wp_callV (S := []) (as := [vR 1]) dX11_index_8 lX11_113 (h) (by omega) sh4 rfl rfl (Nat.le_of_ble_eq_true rfl) ⟨Nat.le_refl _, Nat.le_refl _⟩ ?_
  rintro _ _ V1 ⟨rfl, z1, rfl, q1⟩
  show Wp _ _ _ _ _ 11 _ [vI z1] _ _ _ _ _
  refine wp_istore_n dX11_index_11 rfl (by decide) rfl ?_
  refine wp_aload_n dX11_index_12 rfl rfl ?_
  refine wp_getR (b := 1) dX11_index_13 fX11_10 rfl sh0 (by decide) rfl ?_
  refine wp_inlV (d' := (d + 1)) (S := []) (as := []) dX11_index_16 lX11_117 (by omega) sh1 rfl rfl (Nat.le_of_ble_eq_true rfl) ⟨Nat.le_refl _, Nat.le_refl _⟩ (Mt.of2 (L := [some (vR 1)]) pnX9 rfl rfl ?_)
  refine wp_aload_n dX9_wipe_0 rfl rfl ?_
  refine wp_iconst dX9_wipe_1 (by decide) ?_
  refine wp_putI dX9_wipe_2 fwX9_35 rfl sh1 (by decide) ?_
  refine wp_aload_n dX9_wipe_5 rfl rfl ?_
  refine wp_iconst dX9_wipe_6 (by decide) ?_
  refine wp_putI dX9_wipe_7 fwX9_38 rfl sh1 (by decide) ?_
  refine wp_return dX9_wipe_10 rfl ⟨rfl, rfl⟩ ?_
  show Wp _ _ _ _ _ 19 _ [] _ _ _ _ _
  refine wp_iload_n dX11_index_19 rfl rfl ?_
  refine wp_if_eq (tgt := 25) dX11_index_20 rfl (fun c2 => ?_) (fun c2 => ?_)
  ·
    refine wp_aload_n dX11_index_25 rfl rfl ?_
    refine wp_getR (b := 73) dX11_index_26 fX11_30 rfl sh0 (by decide) rfl ?_
    refine wp_aload_n dX11_index_29 rfl rfl ?_
    refine wp_getR (b := 4) dX11_index_30 fX11_19 rfl sh0 (by decide) rfl ?_
    refine wp_getR (b := 5) dX11_index_33 fX11_120 rfl sh4 (by decide) rfl ?_
    refine wp_callV (S := []) (as := [vR 5]) dX11_index_36 lX11_123 ((q1.1 c2)) (by omega) sh73 rfl rfl (Nat.le_of_ble_eq_true rfl) ⟨Nat.le_refl _, Nat.le_refl _⟩ ?_
    rintro _ _ V3 ⟨rfl, rfl, q3⟩
    show Wp _ _ _ _ _ 39 _ [] _ _ _ _ _
    refine wp_aload_n dX11_index_39 rfl rfl ?_
    refine wp_getR (b := 43) dX11_index_40 fX11_26 rfl sh0 (by decide) rfl ?_
    refine wp_aload_n dX11_index_43 rfl rfl ?_
    refine wp_getR (b := 73) dX11_index_44 fX11_30 rfl sh0 (by decide) rfl ?_
    refine wp_callV (S := []) (as := [vR 73]) dX11_index_47 lX11_123 (q3) (by omega) sh43 rfl rfl (Nat.le_of_ble_eq_true rfl) ⟨Nat.le_refl _, Nat.le_refl _⟩ ?_
    rintro _ _ V4 ⟨rfl, rfl, q4⟩
    show Wp _ _ _ _ _ 50 _ [] _ _ _ _ _
    refine wp_aload_n dX11_index_50 rfl rfl ?_
    refine wp_getR (b := 135) dX11_index_51 fX11_47 rfl sh0 (by decide) rfl ?_
    refine wp_aload_n dX11_index_54 rfl rfl ?_
    refine wp_getR (b := 4) dX11_index_55 fX11_19 rfl sh0 (by decide) rfl ?_
    refine wp_getR (b := 35) dX11_index_58 fX11_127 rfl sh4 (by decide) rfl ?_
    refine wp_inlV (d' := (d + 1)) (S := []) (as := [vR 35]) dX11_index_61 lX11_128 (by omega) sh135 rfl rfl (Nat.le_of_ble_eq_true rfl) ⟨Nat.le_refl _, Nat.le_refl _⟩ (Mt.of2 (L := [some (vR 135), some (vR 35)]) pnX4 rfl rfl ?_)
    refine wp_aload_n dX4_copyFrom_0 rfl rfl ?_
    refine wp_getR (b := 36) dX4_copyFrom_1 fX4_9 rfl sh35 (by decide) rfl ?_
    refine wp_iconst dX4_copyFrom_4 (by decide) ?_
    refine wp_aload_n dX4_copyFrom_5 rfl rfl ?_
    refine wp_getR (b := 136) dX4_copyFrom_6 fX4_9 rfl sh135 (by decide) rfl ?_
    refine wp_iconst dX4_copyFrom_9 (by decide) ?_
    refine wp_aload_n dX4_copyFrom_10 rfl rfl ?_
    refine wp_getR (b := 136) dX4_copyFrom_11 fX4_9 rfl sh135 (by decide) rfl ?_
    refine wp_alen dX4_copyFrom_14 sh136 (by decide) (by decide) ?_
    refine wp_copy dX4_copyFrom_15 lX4_26 hE (by omega) (Nat.le_of_ble_eq_true rfl) sh36 sh136 (by decide) ?_
    refine wp_aload_n dX4_copyFrom_18 rfl rfl ?_
    refine wp_aload_n dX4_copyFrom_19 rfl rfl ?_
    refine wp_getI dX4_copyFrom_20 fX4_18 rfl sh35 (by decide) ?_
    refine wp_putI dX4_copyFrom_23 fwX4_18 rfl sh135 (by decide) ?_
    refine wp_return dX4_copyFrom_26 rfl ⟨rfl, rfl⟩ ?_
    show Wp _ _ _ _ _ 64 _ [] _ _ _ _ _
    refine wp_aload_n dX11_index_64 rfl rfl ?_
    refine wp_getR (b := 138) dX11_index_65 fX11_56 rfl sh0 (by decide) rfl ?_
    refine wp_iconst dX11_index_68 (by decide) ?_
    refine wp_putI dX11_index_69 fwX11_131 rfl sh138 (by decide) ?_
    refine wp_aload_n dX11_index_72 rfl rfl ?_
    refine wp_getR (b := 142) dX11_index_73 fX11_60 rfl sh0 (by decide) rfl ?_
    refine wp_iconst dX11_index_76 (by decide) ?_
    refine wp_putI dX11_index_77 fwX11_131 rfl sh142 (by decide) ?_
    refine wp_iconst dX11_index_80 (by decide) ?_
    refine wp_istore_n dX11_index_81 rfl (by decide) rfl ?_
    exact wp_loc (L2 := [some (vR 0), none, some (vI 0)]) ⟨rfl, ⟨rfl, trivial⟩⟩ q4
  ·
    refine wp_iload_n dX11_index_23 rfl rfl ?_
    exact wp_ireturn dX11_index_24 rfl ⟨rfl, rfl⟩ ⟨rfl, (q1.2 c2)⟩
set_option maxHeartbeats 4000000 in
set_option maxRecDepth 10000 in
theorem sX11_index_82 {K : KK} {d : Nat} {V : Mem} {Q : Option AV → Mem → Prop} (x2 : Int) (h : ((4 ≤ x2 → Q (some (vI 0)) (upm V 0 17 (V 73 6))) ∧ (¬ (4 ≤ x2) → (((0 : Int) ≤ x2 ∧ x2 < (4 : Nat)) ∧ ((0 : Int) = 0 ∨ (0 : Int) = 1) ∧ Wf K (d + 2) mX11_index 82 [some (vR 0), none, some (vI (w32 (x2 + 1)))] [] (upm V 134 (Int.toNat x2) 0) Q)))) : Wf K (d + 2) mX11_index 82 [some (vR 0), none, some (vI x2)] [] V Q := by
  refine wp_iload_n dX11_index_82 rfl rfl ?_
  refine wp_iconst dX11_index_83 (by decide) ?_
  refine wp_icmp_ge (tgt := 100) dX11_index_84 rfl (fun c1 => ?_) (fun c1 => ?_)
  ·
    refine wp_aload_n dX11_index_100 rfl rfl ?_
    refine wp_aload_n dX11_index_101 rfl rfl ?_
    refine wp_getR (b := 73) dX11_index_102 fX11_30 rfl sh0 (by decide) rfl ?_
    refine wp_getI dX11_index_105 fX11_134 rfl sh73 (by decide) ?_
    refine wp_putI dX11_index_108 fwX11_137 rfl sh0 (by decide) ?_
    refine wp_iconst dX11_index_111 (by decide) ?_
    exact wp_ireturn dX11_index_112 rfl ⟨rfl, rfl⟩ ⟨rfl, (h.1 c1)⟩
  ·
    refine wp_aload_n dX11_index_87 rfl rfl ?_
    refine wp_getR (b := 134) dX11_index_88 fX11_40 rfl sh0 (by decide) rfl ?_
    refine wp_iload_n dX11_index_91 rfl rfl ?_
    refine wp_iconst dX11_index_92 (by decide) ?_
    refine wp_zast dX11_index_93 sh134 (h.2 c1).1 (h.2 c1).2.1 ?_
    refine wp_iinc dX11_index_94 rfl rfl ?_
    refine wp_goto (tgt := 82) dX11_index_97 rfl ?_
    exact (h.2 c1).2.2
set_option maxHeartbeats 4000000 in
set_option maxRecDepth 10000 in
theorem sX11_work {K : KK} {d : Nat} {V : Mem} {Q : Option AV → Mem → Prop}  (h : Mf K d mX5_readWork [vR 4, vR 1, vR 73] V (fun r V1 => ∃ z1, r = some (vI z1) ∧ ((¬ z1 = 0 → Q (some (vI z1)) (upm (upm V1 1 2 0) 1 3 0)) ∧ (z1 = 0 → Mf K d mX3_copyFrom [vR 138, vR 38] (upm (upm V1 1 2 0) 1 3 0) (fun r V3 => r = none ∧ Q (some (vI z1)) V3))))) : Mf K (d + 1) mX11_work [vR 0] V Q := by
  refine Mt.of2 (L := [some (vR 0), none]) pnX11 rfl rfl ?_
  refine wp_aload_n dX11_work_0 rfl rfl ?_
  refine wp_getR (b := 4) dX11_work_1 fX11_19 rfl sh0 (by decide) rfl ?_
  refine wp_aload_n dX11_work_4 rfl rfl ?_
  refine wp_getR (b := 1) dX11_work_5 fX11_10 rfl sh0 (by decide) rfl ?_
  refine wp_aload_n dX11_work_8 rfl rfl ?_
  refine wp_getR (b := 73) dX11_work_9 fX11_30 rfl sh0 (by decide) rfl ?_
  refine wp_callV (S := []) (as := [vR 1, vR 73]) dX11_work_12 lX11_140 (h) (by omega) sh4 rfl rfl (Nat.le_of_ble_eq_true rfl) ⟨Nat.le_refl _, Nat.le_refl _⟩ ?_
  rintro _ _ V1 ⟨rfl, z1, rfl, q1⟩
  show Wp _ _ _ _ _ 15 _ [vI z1] _ _ _ _ _
  refine wp_istore_n dX11_work_15 rfl (by decide) rfl ?_
  refine wp_aload_n dX11_work_16 rfl rfl ?_
  refine wp_getR (b := 1) dX11_work_17 fX11_10 rfl sh0 (by decide) rfl ?_
  refine wp_inlV (d' := d) (S := []) (as := []) dX11_work_20 lX11_117 (by omega) sh1 rfl rfl (Nat.le_of_ble_eq_true rfl) ⟨Nat.le_refl _, Nat.le_refl _⟩ (Mt.of2 (L := [some (vR 1)]) pnX9 rfl rfl ?_)
  refine wp_aload_n dX9_wipe_0 rfl rfl ?_
  refine wp_iconst dX9_wipe_1 (by decide) ?_
  refine wp_putI dX9_wipe_2 fwX9_35 rfl sh1 (by decide) ?_
  refine wp_aload_n dX9_wipe_5 rfl rfl ?_
  refine wp_iconst dX9_wipe_6 (by decide) ?_
  refine wp_putI dX9_wipe_7 fwX9_38 rfl sh1 (by decide) ?_
  refine wp_return dX9_wipe_10 rfl ⟨rfl, rfl⟩ ?_
  show Wp _ _ _ _ _ 23 _ [] _ _ _ _ _
  refine wp_iload_n dX11_work_23 rfl rfl ?_
  refine wp_if_ne (tgt := 41) dX11_work_24 rfl (fun c2 => ?_) (fun c2 => ?_)
  ·
    refine wp_iload_n dX11_work_41 rfl rfl ?_
    exact wp_ireturn dX11_work_42 rfl ⟨rfl, rfl⟩ ⟨rfl, (q1.1 c2)⟩
  ·
    refine wp_aload_n dX11_work_27 rfl rfl ?_
    refine wp_getR (b := 138) dX11_work_28 fX11_56 rfl sh0 (by decide) rfl ?_
    refine wp_aload_n dX11_work_31 rfl rfl ?_
    refine wp_getR (b := 4) dX11_work_32 fX11_19 rfl sh0 (by decide) rfl ?_
    refine wp_getR (b := 38) dX11_work_35 fX11_144 rfl sh4 (by decide) rfl ?_
    refine wp_callV (S := []) (as := [vR 38]) dX11_work_38 lX11_147 ((q1.2 c2)) (by omega) sh138 rfl rfl (Nat.le_of_ble_eq_true rfl) ⟨Nat.le_refl _, Nat.le_refl _⟩ ?_
    rintro _ _ V3 ⟨rfl, rfl, q3⟩
    show Wp _ _ _ _ _ 41 _ [] _ _ _ _ _
    refine wp_iload_n dX11_work_41 rfl rfl ?_
    exact wp_ireturn dX11_work_42 rfl ⟨rfl, rfl⟩ ⟨rfl, q3⟩
set_option maxHeartbeats 4000000 in
set_option maxRecDepth 10000 in
theorem sX11_row {K : KK} {d : Nat} {V : Mem} {Q : Option AV → Mem → Prop} (x1 : Int) (x2 : Int) (h : ((x1 < 0 → Q (some (vI (-1))) V) ∧ (¬ (x1 < 0) → (((V 43 5) ≤ x1 → Q (some (vI (-1))) V) ∧ (¬ ((V 43 5) ≤ x1) → (((0 : Int) ≤ x1 ∧ x1 < (4 : Nat)) ∧ ((¬ x2 = 0 → ((¬ x2 = 1 → Q (some (vI (-1))) V) ∧ (x2 = 1 → Q (some (vI (V (49 + 2 * Int.toNat x1) 3))) V))) ∧ (x2 = 0 → Q (some (vI (V (49 + 2 * Int.toNat x1) 2))) V)))))))) : Mf K (d + 1) mX11_row [vR 0, vI x1, vI x2] V Q := by
  refine Mt.of2 (L := [some (vR 0), some (vI x1), some (vI x2), none]) pnX11 rfl rfl ?_
  refine wp_aload_n dX11_row_0 rfl rfl ?_
  refine wp_getR (b := 43) dX11_row_1 fX11_26 rfl sh0 (by decide) rfl ?_
  refine wp_iload_n dX11_row_4 rfl rfl ?_
  refine wp_inlV (d' := d) (S := []) (as := [vI x1]) dX11_row_5 lX11_150 (by omega) sh43 rfl rfl (Nat.le_of_ble_eq_true rfl) ⟨Nat.le_refl _, Nat.le_refl _⟩ (Mt.of2 (L := [some (vR 43), some (vI x1)]) pnX7 rfl rfl ?_)
  refine wp_iload_n dX7_rowAt_0 rfl rfl ?_
  refine wp_if_lt (tgt := 21) dX7_rowAt_1 rfl (fun c1 => ?_) (fun c1 => ?_)
  ·
    refine wp_null dX7_rowAt_21 ?_
    refine wp_areturn dX7_rowAt_22 rfl ⟨rfl, rfl⟩ ?_
    show Wp _ _ _ _ _ 8 _ [vN] _ _ _ _ _
    refine wp_astore_nN dX11_row_8 rfl (by decide) rfl ?_
    refine wp_aload_nN dX11_row_9 rfl rfl ?_
    refine wp_ifnonnullN dX11_row_10 ?_
    refine wp_iconst dX11_row_13 (by decide) ?_
    exact wp_ireturn dX11_row_14 rfl ⟨rfl, rfl⟩ ⟨rfl, (h.1 c1)⟩
  ·
    refine wp_iload_n dX7_rowAt_4 rfl rfl ?_
    refine wp_aload_n dX7_rowAt_5 rfl rfl ?_
    refine wp_getI dX7_rowAt_6 fX7_36 rfl sh43 (by decide) ?_
    refine wp_icmp_ge (tgt := 21) dX7_rowAt_9 rfl (fun c2 => ?_) (fun c2 => ?_)
    ·
      refine wp_null dX7_rowAt_21 ?_
      refine wp_areturn dX7_rowAt_22 rfl ⟨rfl, rfl⟩ ?_
      show Wp _ _ _ _ _ 8 _ [vN] _ _ _ _ _
      refine wp_astore_nN dX11_row_8 rfl (by decide) rfl ?_
      refine wp_aload_nN dX11_row_9 rfl rfl ?_
      refine wp_ifnonnullN dX11_row_10 ?_
      refine wp_iconst dX11_row_13 (by decide) ?_
      exact wp_ireturn dX11_row_14 rfl ⟨rfl, rfl⟩ ⟨rfl, ((h.2 c1).1 c2)⟩
    ·
      refine wp_aload_n dX7_rowAt_12 rfl rfl ?_
      refine wp_getR (b := 44) dX7_rowAt_13 fX7_11 rfl sh43 (by decide) rfl ?_
      refine wp_iload_n dX7_rowAt_16 rfl rfl ?_
      have g3 : (0 : Int) ≤ x1 ∧ x1 < (4 : Nat) := ((h.2 c1).2 c2).1
      refine wp_aald (b := (49 + 2 * Int.toNat x1)) dX7_rowAt_17 sh44 (by decide) g3 (ap_get (b := 49) (s := 2) (n := 4) g3) ?_
      refine wp_goto (tgt := 22) dX7_rowAt_18 rfl ?_
      refine wp_areturn dX7_rowAt_22 rfl ⟨rfl, rfl⟩ ?_
      show Wp _ _ _ _ _ 8 _ [vR (49 + 2 * Int.toNat x1)] _ _ _ _ _
      refine wp_astore_n dX11_row_8 rfl (by decide) rfl ?_
      refine wp_aload_n dX11_row_9 rfl rfl ?_
      refine wp_ifnonnull (tgt := 15) dX11_row_10 rfl ?_
      refine wp_iload_n dX11_row_15 rfl rfl ?_
      refine wp_if_ne (tgt := 24) dX11_row_16 rfl (fun c4 => ?_) (fun c4 => ?_)
      ·
        refine wp_iload_n dX11_row_24 rfl rfl ?_
        refine wp_iconst dX11_row_25 (by decide) ?_
        refine wp_icmp_ne (tgt := 36) dX11_row_26 rfl (fun c5 => ?_) (fun c5 => ?_)
        ·
          refine wp_iconst dX11_row_36 (by decide) ?_
          exact wp_ireturn dX11_row_37 rfl ⟨rfl, rfl⟩ ⟨rfl, ((((h.2 c1).2 c2).2.1 c4).1 c5)⟩
        ·
          refine wp_aload_n dX11_row_29 rfl rfl ?_
          refine wp_getI dX11_row_30 fX11_157 rfl (obj44 g3).1 (by decide) ?_
          refine wp_goto (tgt := 37) dX11_row_33 rfl ?_
          exact wp_ireturn dX11_row_37 rfl ⟨rfl, rfl⟩ ⟨rfl, ((((h.2 c1).2 c2).2.1 c4).2 c5)⟩
      ·
        refine wp_aload_n dX11_row_19 rfl rfl ?_
        refine wp_getI dX11_row_20 fX11_154 rfl (obj44 g3).1 (by decide) ?_
        exact wp_ireturn dX11_row_23 rfl ⟨rfl, rfl⟩ ⟨rfl, (((h.2 c1).2 c2).2.2 c4)⟩
set_option maxHeartbeats 4000000 in
set_option maxRecDepth 10000 in
theorem sX11_item {K : KK} {d : Nat} {V : Mem} {Q : Option AV → Mem → Prop} (x1 : Int) (x2 : Int) (h : ((x1 < 0 → Q (some (vI (-1))) V) ∧ (¬ (x1 < 0) → (((V 43 5) ≤ x1 → Q (some (vI (-1))) V) ∧ (¬ ((V 43 5) ≤ x1) → (((0 : Int) ≤ x1 ∧ x1 < (4 : Nat)) ∧ Mf K d mX6_hasPlace [vR (49 + 2 * Int.toNat x1), vI x2] V (fun r V4 => ∃ z4, r = some (vI z4) ∧ ((¬ z4 = 0 → (((0 : Int) ≤ x2 ∧ x2 < (20 : Nat)) ∧ Q (some (vI (V4 ((49 + 2 * Int.toNat x1) + 1) (Int.toNat x2)))) V4)) ∧ (z4 = 0 → Q (some (vI (-1))) V4))))))))) : Mf K (d + 1) mX11_item [vR 0, vI x1, vI x2] V Q := by
  refine Mt.of2 (L := [some (vR 0), some (vI x1), some (vI x2), none]) pnX11 rfl rfl ?_
  refine wp_aload_n dX11_item_0 rfl rfl ?_
  refine wp_getR (b := 43) dX11_item_1 fX11_26 rfl sh0 (by decide) rfl ?_
  refine wp_iload_n dX11_item_4 rfl rfl ?_
  refine wp_inlV (d' := d) (S := []) (as := [vI x1]) dX11_item_5 lX11_150 (by omega) sh43 rfl rfl (Nat.le_of_ble_eq_true rfl) ⟨Nat.le_refl _, Nat.le_refl _⟩ (Mt.of2 (L := [some (vR 43), some (vI x1)]) pnX7 rfl rfl ?_)
  refine wp_iload_n dX7_rowAt_0 rfl rfl ?_
  refine wp_if_lt (tgt := 21) dX7_rowAt_1 rfl (fun c1 => ?_) (fun c1 => ?_)
  ·
    refine wp_null dX7_rowAt_21 ?_
    refine wp_areturn dX7_rowAt_22 rfl ⟨rfl, rfl⟩ ?_
    show Wp _ _ _ _ _ 8 _ [vN] _ _ _ _ _
    refine wp_astore_nN dX11_item_8 rfl (by decide) rfl ?_
    refine wp_aload_nN dX11_item_9 rfl rfl ?_
    refine wp_ifnullN (tgt := 21) dX11_item_10 rfl ?_
    refine wp_iconst dX11_item_21 (by decide) ?_
    exact wp_ireturn dX11_item_22 rfl ⟨rfl, rfl⟩ ⟨rfl, (h.1 c1)⟩
  ·
    refine wp_iload_n dX7_rowAt_4 rfl rfl ?_
    refine wp_aload_n dX7_rowAt_5 rfl rfl ?_
    refine wp_getI dX7_rowAt_6 fX7_36 rfl sh43 (by decide) ?_
    refine wp_icmp_ge (tgt := 21) dX7_rowAt_9 rfl (fun c2 => ?_) (fun c2 => ?_)
    ·
      refine wp_null dX7_rowAt_21 ?_
      refine wp_areturn dX7_rowAt_22 rfl ⟨rfl, rfl⟩ ?_
      show Wp _ _ _ _ _ 8 _ [vN] _ _ _ _ _
      refine wp_astore_nN dX11_item_8 rfl (by decide) rfl ?_
      refine wp_aload_nN dX11_item_9 rfl rfl ?_
      refine wp_ifnullN (tgt := 21) dX11_item_10 rfl ?_
      refine wp_iconst dX11_item_21 (by decide) ?_
      exact wp_ireturn dX11_item_22 rfl ⟨rfl, rfl⟩ ⟨rfl, ((h.2 c1).1 c2)⟩
    ·
      refine wp_aload_n dX7_rowAt_12 rfl rfl ?_
      refine wp_getR (b := 44) dX7_rowAt_13 fX7_11 rfl sh43 (by decide) rfl ?_
      refine wp_iload_n dX7_rowAt_16 rfl rfl ?_
      have g3 : (0 : Int) ≤ x1 ∧ x1 < (4 : Nat) := ((h.2 c1).2 c2).1
      refine wp_aald (b := (49 + 2 * Int.toNat x1)) dX7_rowAt_17 sh44 (by decide) g3 (ap_get (b := 49) (s := 2) (n := 4) g3) ?_
      refine wp_goto (tgt := 22) dX7_rowAt_18 rfl ?_
      refine wp_areturn dX7_rowAt_22 rfl ⟨rfl, rfl⟩ ?_
      show Wp _ _ _ _ _ 8 _ [vR (49 + 2 * Int.toNat x1)] _ _ _ _ _
      refine wp_astore_n dX11_item_8 rfl (by decide) rfl ?_
      refine wp_aload_n dX11_item_9 rfl rfl ?_
      refine wp_ifnull dX11_item_10 ?_
      refine wp_aload_n dX11_item_13 rfl rfl ?_
      refine wp_iload_n dX11_item_14 rfl rfl ?_
      refine wp_callV (S := []) (as := [vI x2]) dX11_item_15 lX11_160 (((h.2 c1).2 c2).2) (by omega) (obj44 g3).1 rfl rfl (Nat.le_of_ble_eq_true rfl) ⟨Nat.le_refl _, Nat.le_refl _⟩ ?_
      rintro _ _ V4 ⟨rfl, z4, rfl, q4⟩
      show Wp _ _ _ _ _ 18 _ [vI z4] _ _ _ _ _
      refine wp_if_ne (tgt := 23) dX11_item_18 rfl (fun c5 => ?_) (fun c5 => ?_)
      ·
        refine wp_aload_n dX11_item_23 rfl rfl ?_
        refine wp_getR (b := ((49 + 2 * Int.toNat x1) + 1)) dX11_item_24 fX11_164 rfl (obj44 g3).1 (by decide) rfl ?_
        refine wp_iload_n dX11_item_27 rfl rfl ?_
        refine wp_iald dX11_item_28 (obj44 g3).2 (q4.1 c5).1 ?_
        exact wp_ireturn dX11_item_29 rfl ⟨rfl, rfl⟩ ⟨rfl, (q4.1 c5).2⟩
      ·
        refine wp_iconst dX11_item_21 (by decide) ?_
        exact wp_ireturn dX11_item_22 rfl ⟨rfl, rfl⟩ ⟨rfl, (q4.2 c5)⟩
set_option maxHeartbeats 4000000 in
set_option maxRecDepth 10000 in
theorem sX11_braid {K : KK} {d : Nat} {V : Mem} {Q : Option AV → Mem → Prop} (x1 : Int) (x2 : Int) (h : ((x1 < 0 → Q (some (vI (-1))) V) ∧ (¬ (x1 < 0) → (((V 43 6) ≤ x1 → Q (some (vI (-1))) V) ∧ (¬ ((V 43 6) ≤ x1) → (((0 : Int) ≤ x1 ∧ x1 < (8 : Nat)) ∧ ((¬ x2 = 0 → ((¬ x2 = 1 → ((¬ x2 = 2 → Q (some (vI (-1))) V) ∧ (x2 = 2 → Q (some (vI (V (57 + 2 * Int.toNat x1) 3))) V))) ∧ (x2 = 1 → Mf K d mX0_crossings [vR (57 + 2 * Int.toNat x1)] V (fun r V7 => ∃ z7, r = some (vI z7) ∧ Q (some (vI z7)) V7)))) ∧ (x2 = 0 → Q (some (vI (V (57 + 2 * Int.toNat x1) 2))) V)))))))) : Mf K (d + 1) mX11_braid [vR 0, vI x1, vI x2] V Q := by
  refine Mt.of2 (L := [some (vR 0), some (vI x1), some (vI x2), none]) pnX11 rfl rfl ?_
  refine wp_aload_n dX11_braid_0 rfl rfl ?_
  refine wp_getR (b := 43) dX11_braid_1 fX11_26 rfl sh0 (by decide) rfl ?_
  refine wp_iload_n dX11_braid_4 rfl rfl ?_
  refine wp_inlV (d' := d) (S := []) (as := [vI x1]) dX11_braid_5 lX11_178 (by omega) sh43 rfl rfl (Nat.le_of_ble_eq_true rfl) ⟨Nat.le_refl _, Nat.le_refl _⟩ (Mt.of2 (L := [some (vR 43), some (vI x1)]) pnX7 rfl rfl ?_)
  refine wp_iload_n dX7_braidAt_0 rfl rfl ?_
  refine wp_if_lt (tgt := 21) dX7_braidAt_1 rfl (fun c1 => ?_) (fun c1 => ?_)
  ·
    refine wp_null dX7_braidAt_21 ?_
    refine wp_areturn dX7_braidAt_22 rfl ⟨rfl, rfl⟩ ?_
    show Wp _ _ _ _ _ 8 _ [vN] _ _ _ _ _
    refine wp_astore_nN dX11_braid_8 rfl (by decide) rfl ?_
    refine wp_aload_nN dX11_braid_9 rfl rfl ?_
    refine wp_ifnonnullN dX11_braid_10 ?_
    refine wp_iconst dX11_braid_13 (by decide) ?_
    exact wp_ireturn dX11_braid_14 rfl ⟨rfl, rfl⟩ ⟨rfl, (h.1 c1)⟩
  ·
    refine wp_iload_n dX7_braidAt_4 rfl rfl ?_
    refine wp_aload_n dX7_braidAt_5 rfl rfl ?_
    refine wp_getI dX7_braidAt_6 fX7_40 rfl sh43 (by decide) ?_
    refine wp_icmp_ge (tgt := 21) dX7_braidAt_9 rfl (fun c2 => ?_) (fun c2 => ?_)
    ·
      refine wp_null dX7_braidAt_21 ?_
      refine wp_areturn dX7_braidAt_22 rfl ⟨rfl, rfl⟩ ?_
      show Wp _ _ _ _ _ 8 _ [vN] _ _ _ _ _
      refine wp_astore_nN dX11_braid_8 rfl (by decide) rfl ?_
      refine wp_aload_nN dX11_braid_9 rfl rfl ?_
      refine wp_ifnonnullN dX11_braid_10 ?_
      refine wp_iconst dX11_braid_13 (by decide) ?_
      exact wp_ireturn dX11_braid_14 rfl ⟨rfl, rfl⟩ ⟨rfl, ((h.2 c1).1 c2)⟩
    ·
      refine wp_aload_n dX7_braidAt_12 rfl rfl ?_
      refine wp_getR (b := 45) dX7_braidAt_13 fX7_19 rfl sh43 (by decide) rfl ?_
      refine wp_iload_n dX7_braidAt_16 rfl rfl ?_
      have g3 : (0 : Int) ≤ x1 ∧ x1 < (8 : Nat) := ((h.2 c1).2 c2).1
      refine wp_aald (b := (57 + 2 * Int.toNat x1)) dX7_braidAt_17 sh45 (by decide) g3 (ap_get (b := 57) (s := 2) (n := 8) g3) ?_
      refine wp_goto (tgt := 22) dX7_braidAt_18 rfl ?_
      refine wp_areturn dX7_braidAt_22 rfl ⟨rfl, rfl⟩ ?_
      show Wp _ _ _ _ _ 8 _ [vR (57 + 2 * Int.toNat x1)] _ _ _ _ _
      refine wp_astore_n dX11_braid_8 rfl (by decide) rfl ?_
      refine wp_aload_n dX11_braid_9 rfl rfl ?_
      refine wp_ifnonnull (tgt := 15) dX11_braid_10 rfl ?_
      refine wp_iload_n dX11_braid_15 rfl rfl ?_
      refine wp_if_ne (tgt := 24) dX11_braid_16 rfl (fun c4 => ?_) (fun c4 => ?_)
      ·
        refine wp_iload_n dX11_braid_24 rfl rfl ?_
        refine wp_iconst dX11_braid_25 (by decide) ?_
        refine wp_icmp_ne (tgt := 34) dX11_braid_26 rfl (fun c5 => ?_) (fun c5 => ?_)
        ·
          refine wp_iload_n dX11_braid_34 rfl rfl ?_
          refine wp_iconst dX11_braid_35 (by decide) ?_
          refine wp_icmp_ne (tgt := 46) dX11_braid_36 rfl (fun c6 => ?_) (fun c6 => ?_)
          ·
            refine wp_iconst dX11_braid_46 (by decide) ?_
            exact wp_ireturn dX11_braid_47 rfl ⟨rfl, rfl⟩ ⟨rfl, (((((h.2 c1).2 c2).2.1 c4).1 c5).1 c6)⟩
          ·
            refine wp_aload_n dX11_braid_39 rfl rfl ?_
            refine wp_getI dX11_braid_40 fX11_191 rfl (obj45 g3).1 (by decide) ?_
            refine wp_goto (tgt := 47) dX11_braid_43 rfl ?_
            exact wp_ireturn dX11_braid_47 rfl ⟨rfl, rfl⟩ ⟨rfl, (((((h.2 c1).2 c2).2.1 c4).1 c5).2 c6)⟩
        ·
          refine wp_aload_n dX11_braid_29 rfl rfl ?_
          refine wp_callV (S := []) (as := []) dX11_braid_30 lX11_187 (((((h.2 c1).2 c2).2.1 c4).2 c5)) (by omega) (obj45 g3).1 rfl rfl (Nat.le_of_ble_eq_true rfl) ⟨Nat.le_refl _, Nat.le_refl _⟩ ?_
          rintro _ _ V7 ⟨rfl, z7, rfl, q7⟩
          show Wp _ _ _ _ _ 33 _ [vI z7] _ _ _ _ _
          exact wp_ireturn dX11_braid_33 rfl ⟨rfl, rfl⟩ ⟨rfl, q7⟩
      ·
        refine wp_aload_n dX11_braid_19 rfl rfl ?_
        refine wp_getI dX11_braid_20 fX11_182 rfl (obj45 g3).1 (by decide) ?_
        exact wp_ireturn dX11_braid_23 rfl ⟨rfl, rfl⟩ ⟨rfl, (((h.2 c1).2 c2).2.2 c4)⟩
set_option maxHeartbeats 4000000 in
set_option maxRecDepth 10000 in
theorem sX11_count {K : KK} {d : Nat} {V : Mem} {Q : Option AV → Mem → Prop} (x1 : Int) (h : ((x1 = 0 → Q (some (vI (V 43 5))) V) ∧ (x1 = 1 → Q (some (vI (V 43 6))) V) ∧ (x1 = 2 → Mf K d mX7_allNumbers [vR 43] V (fun r V1 => ∃ z1, r = some (vI z1) ∧ Q (some (vI z1)) V1)) ∧ (x1 = 3 → Q (some (vI (V 0 17))) V) ∧ (x1 = 4 → Q (some (vI (V 138 3))) V) ∧ (x1 = 5 → Q (some (vI (V 43 7))) V) ∧ (x1 = 6 → Q (some (vI (V 142 3))) V) ∧ (x1 = 7 → Q (some (vI (V 1 2))) V) ∧ ((x1 < 0 ∨ 7 < x1) → Q (some (vI (-1))) V))) : Mf K (d + 1) mX11_count [vR 0, vI x1] V Q := by
  refine Mt.of2 (L := [some (vR 0), some (vI x1)]) pnX11 rfl rfl ?_
  refine wp_iload_n dX11_count_0 rfl rfl ?_
  refine tswS 0 7 x1 (fun o2 => ?_) (fun l2 u2 => ?_)
  ·
    refine wp_tswOut (tgt := 109) dX11_count_1 o2 rfl ?_
    refine wp_iconst dX11_count_109 (by decide) ?_
    exact wp_ireturn dX11_count_110 rfl ⟨rfl, rfl⟩ ⟨rfl, ((h.2.2.2.2.2.2.2.2) o2)⟩
  ·
    rcases (show x1 = 0 ∨ x1 = 1 ∨ x1 = 2 ∨ x1 = 3 ∨ x1 = 4 ∨ x1 = 5 ∨ x1 = 6 ∨ x1 = 7 by omega) with e2 | e2 | e2 | e2 | e2 | e2 | e2 | e2
    ·
      refine wp_tswIn (tgt := 48) dX11_count_1 l2 u2 (by rw [e2] <;> rfl) rfl ?_
      refine wp_aload_n dX11_count_48 rfl rfl ?_
      refine wp_getR (b := 43) dX11_count_49 fX11_26 rfl sh0 (by decide) rfl ?_
      refine wp_getI dX11_count_52 fX11_192 rfl sh43 (by decide) ?_
      exact wp_ireturn dX11_count_55 rfl ⟨rfl, rfl⟩ ⟨rfl, ((h.1) e2)⟩
    ·
      refine wp_tswIn (tgt := 56) dX11_count_1 l2 u2 (by rw [e2] <;> rfl) rfl ?_
      refine wp_aload_n dX11_count_56 rfl rfl ?_
      refine wp_getR (b := 43) dX11_count_57 fX11_26 rfl sh0 (by decide) rfl ?_
      refine wp_getI dX11_count_60 fX11_134 rfl sh43 (by decide) ?_
      exact wp_ireturn dX11_count_63 rfl ⟨rfl, rfl⟩ ⟨rfl, ((h.2.1) e2)⟩
    ·
      refine wp_tswIn (tgt := 64) dX11_count_1 l2 u2 (by rw [e2] <;> rfl) rfl ?_
      refine wp_aload_n dX11_count_64 rfl rfl ?_
      refine wp_getR (b := 43) dX11_count_65 fX11_26 rfl sh0 (by decide) rfl ?_
      refine wp_callV (S := []) (as := []) dX11_count_68 lX11_195 (((h.2.2.1) e2)) (by omega) sh43 rfl rfl (Nat.le_of_ble_eq_true rfl) ⟨Nat.le_refl _, Nat.le_refl _⟩ ?_
      rintro _ _ V1 ⟨rfl, z1, rfl, q1⟩
      show Wp _ _ _ _ _ 71 _ [vI z1] _ _ _ _ _
      exact wp_ireturn dX11_count_71 rfl ⟨rfl, rfl⟩ ⟨rfl, q1⟩
    ·
      refine wp_tswIn (tgt := 72) dX11_count_1 l2 u2 (by rw [e2] <;> rfl) rfl ?_
      refine wp_aload_n dX11_count_72 rfl rfl ?_
      refine wp_getI dX11_count_73 fX11_137 rfl sh0 (by decide) ?_
      exact wp_ireturn dX11_count_76 rfl ⟨rfl, rfl⟩ ⟨rfl, ((h.2.2.2.1) e2)⟩
    ·
      refine wp_tswIn (tgt := 77) dX11_count_1 l2 u2 (by rw [e2] <;> rfl) rfl ?_
      refine wp_aload_n dX11_count_77 rfl rfl ?_
      refine wp_getR (b := 138) dX11_count_78 fX11_56 rfl sh0 (by decide) rfl ?_
      refine wp_getI dX11_count_81 fX11_131 rfl sh138 (by decide) ?_
      exact wp_ireturn dX11_count_84 rfl ⟨rfl, rfl⟩ ⟨rfl, ((h.2.2.2.2.1) e2)⟩
    ·
      refine wp_tswIn (tgt := 85) dX11_count_1 l2 u2 (by rw [e2] <;> rfl) rfl ?_
      refine wp_aload_n dX11_count_85 rfl rfl ?_
      refine wp_getR (b := 43) dX11_count_86 fX11_26 rfl sh0 (by decide) rfl ?_
      refine wp_getI dX11_count_89 fX11_198 rfl sh43 (by decide) ?_
      exact wp_ireturn dX11_count_92 rfl ⟨rfl, rfl⟩ ⟨rfl, ((h.2.2.2.2.2.1) e2)⟩
    ·
      refine wp_tswIn (tgt := 93) dX11_count_1 l2 u2 (by rw [e2] <;> rfl) rfl ?_
      refine wp_aload_n dX11_count_93 rfl rfl ?_
      refine wp_getR (b := 142) dX11_count_94 fX11_60 rfl sh0 (by decide) rfl ?_
      refine wp_getI dX11_count_97 fX11_131 rfl sh142 (by decide) ?_
      exact wp_ireturn dX11_count_100 rfl ⟨rfl, rfl⟩ ⟨rfl, ((h.2.2.2.2.2.2.1) e2)⟩
    ·
      refine wp_tswIn (tgt := 101) dX11_count_1 l2 u2 (by rw [e2] <;> rfl) rfl ?_
      refine wp_aload_n dX11_count_101 rfl rfl ?_
      refine wp_getR (b := 1) dX11_count_102 fX11_10 rfl sh0 (by decide) rfl ?_
      refine wp_getI dX11_count_105 fX11_109 rfl sh1 (by decide) ?_
      exact wp_ireturn dX11_count_108 rfl ⟨rfl, rfl⟩ ⟨rfl, ((h.2.2.2.2.2.2.2.1) e2)⟩
set_option maxHeartbeats 4000000 in
set_option maxRecDepth 10000 in
theorem sX11_append {K : KK} {d : Nat} {V : Mem} {Q : Option AV → Mem → Prop} (x1 : Int) (x2 : Int) (h : Mf K d mX7_grow [vR 43, vI x1, vI x2] V (fun r V1 => ∃ z1, r = some (vI z1) ∧ ((z1 = (-1) → Q (some (vI z1)) V1) ∧ (¬ (z1 = (-1)) → Mf K d mX3_add [vR 142, vI 131, vI x1, vI x2] V1 (fun r V3 => r = none ∧ Q (some (vI z1)) V3))))) : Mf K (d + 1) mX11_append [vR 0, vI x1, vI x2] V Q := by
  refine Mt.of2 (L := [some (vR 0), some (vI x1), some (vI x2), none]) pnX11 rfl rfl ?_
  refine wp_aload_n dX11_append_0 rfl rfl ?_
  refine wp_getR (b := 43) dX11_append_1 fX11_26 rfl sh0 (by decide) rfl ?_
  refine wp_iload_n dX11_append_4 rfl rfl ?_
  refine wp_iload_n dX11_append_5 rfl rfl ?_
  refine wp_callV (S := []) (as := [vI x1, vI x2]) dX11_append_6 lX11_201 (h) (by omega) sh43 rfl rfl (Nat.le_of_ble_eq_true rfl) ⟨Nat.le_refl _, Nat.le_refl _⟩ ?_
  rintro _ _ V1 ⟨rfl, z1, rfl, q1⟩
  show Wp _ _ _ _ _ 9 _ [vI z1] _ _ _ _ _
  refine wp_istore_n dX11_append_9 rfl (by decide) rfl ?_
  refine wp_iload_n dX11_append_10 rfl rfl ?_
  refine wp_iconst dX11_append_11 (by decide) ?_
  refine wp_icmp_eq (tgt := 27) dX11_append_12 rfl (fun c2 => ?_) (fun c2 => ?_)
  ·
    refine wp_iload_n dX11_append_27 rfl rfl ?_
    exact wp_ireturn dX11_append_28 rfl ⟨rfl, rfl⟩ ⟨rfl, (q1.1 c2)⟩
  ·
    refine wp_aload_n dX11_append_15 rfl rfl ?_
    refine wp_getR (b := 142) dX11_append_16 fX11_60 rfl sh0 (by decide) rfl ?_
    refine wp_sipush dX11_append_19 (by decide) ?_
    refine wp_iload_n dX11_append_22 rfl rfl ?_
    refine wp_iload_n dX11_append_23 rfl rfl ?_
    refine wp_callV (S := []) (as := [vI 131, vI x1, vI x2]) dX11_append_24 lX11_205 ((q1.2 c2)) (by omega) sh142 rfl rfl (Nat.le_of_ble_eq_true rfl) ⟨Nat.le_refl _, Nat.le_refl _⟩ ?_
    rintro _ _ V3 ⟨rfl, rfl, q3⟩
    show Wp _ _ _ _ _ 27 _ [] _ _ _ _ _
    refine wp_iload_n dX11_append_27 rfl rfl ?_
    exact wp_ireturn dX11_append_28 rfl ⟨rfl, rfl⟩ ⟨rfl, q3⟩
set_option maxHeartbeats 4000000 in
set_option maxRecDepth 10000 in
theorem sX11_cut {K : KK} {d : Nat} {V : Mem} {Q : Option AV → Mem → Prop} (x1 : Int) (h : Mf K d mX7_shrink [vR 43, vI x1] V (fun r V1 => ∃ z1, r = some (vI z1) ∧ ((z1 = (-1) → Q (some (vI z1)) V1) ∧ (¬ (z1 = (-1)) → Mf K d mX3_add [vR 142, vI 132, vI x1, vI z1] V1 (fun r V3 => r = none ∧ Q (some (vI z1)) V3))))) : Mf K (d + 1) mX11_cut [vR 0, vI x1] V Q := by
  refine Mt.of2 (L := [some (vR 0), some (vI x1), none]) pnX11 rfl rfl ?_
  refine wp_aload_n dX11_cut_0 rfl rfl ?_
  refine wp_getR (b := 43) dX11_cut_1 fX11_26 rfl sh0 (by decide) rfl ?_
  refine wp_iload_n dX11_cut_4 rfl rfl ?_
  refine wp_callV (S := []) (as := [vI x1]) dX11_cut_5 lX11_209 (h) (by omega) sh43 rfl rfl (Nat.le_of_ble_eq_true rfl) ⟨Nat.le_refl _, Nat.le_refl _⟩ ?_
  rintro _ _ V1 ⟨rfl, z1, rfl, q1⟩
  show Wp _ _ _ _ _ 8 _ [vI z1] _ _ _ _ _
  refine wp_istore_n dX11_cut_8 rfl (by decide) rfl ?_
  refine wp_iload_n dX11_cut_9 rfl rfl ?_
  refine wp_iconst dX11_cut_10 (by decide) ?_
  refine wp_icmp_eq (tgt := 26) dX11_cut_11 rfl (fun c2 => ?_) (fun c2 => ?_)
  ·
    refine wp_iload_n dX11_cut_26 rfl rfl ?_
    exact wp_ireturn dX11_cut_27 rfl ⟨rfl, rfl⟩ ⟨rfl, (q1.1 c2)⟩
  ·
    refine wp_aload_n dX11_cut_14 rfl rfl ?_
    refine wp_getR (b := 142) dX11_cut_15 fX11_60 rfl sh0 (by decide) rfl ?_
    refine wp_sipush dX11_cut_18 (by decide) ?_
    refine wp_iload_n dX11_cut_21 rfl rfl ?_
    refine wp_iload_n dX11_cut_22 rfl rfl ?_
    refine wp_callV (S := []) (as := [vI 132, vI x1, vI z1]) dX11_cut_23 lX11_205 ((q1.2 c2)) (by omega) sh142 rfl rfl (Nat.le_of_ble_eq_true rfl) ⟨Nat.le_refl _, Nat.le_refl _⟩ ?_
    rintro _ _ V3 ⟨rfl, rfl, q3⟩
    show Wp _ _ _ _ _ 26 _ [] _ _ _ _ _
    refine wp_iload_n dX11_cut_26 rfl rfl ?_
    exact wp_ireturn dX11_cut_27 rfl ⟨rfl, rfl⟩ ⟨rfl, q3⟩
set_option maxHeartbeats 4000000 in
set_option maxRecDepth 10000 in
theorem sX11_turn {K : KK} {d : Nat} {V : Mem} {Q : Option AV → Mem → Prop} (x1 : Int) (h : Mf K d mX7_reverse [vR 43, vI x1] V (fun r V1 => ∃ z1, r = some (vI z1) ∧ ((z1 = 0 → ((z1 = 0 ∨ z1 = 1) ∧ Q (some (vI z1)) V1)) ∧ (¬ (z1 = 0) → Mf K d mX3_add [vR 142, vI 133, vI x1, vI 0] V1 (fun r V3 => r = none ∧ ((z1 = 0 ∨ z1 = 1) ∧ Q (some (vI z1)) V3)))))) : Mf K (d + 1) mX11_turn [vR 0, vI x1] V Q := by
  refine Mt.of2 (L := [some (vR 0), some (vI x1), none]) pnX11 rfl rfl ?_
  refine wp_aload_n dX11_turn_0 rfl rfl ?_
  refine wp_getR (b := 43) dX11_turn_1 fX11_26 rfl sh0 (by decide) rfl ?_
  refine wp_iload_n dX11_turn_4 rfl rfl ?_
  refine wp_callV (S := []) (as := [vI x1]) dX11_turn_5 lX11_213 (h) (by omega) sh43 rfl rfl (Nat.le_of_ble_eq_true rfl) ⟨Nat.le_refl _, Nat.le_refl _⟩ ?_
  rintro _ _ V1 ⟨rfl, z1, rfl, q1⟩
  show Wp _ _ _ _ _ 8 _ [vI z1] _ _ _ _ _
  refine wp_istore_n dX11_turn_8 rfl (by decide) rfl ?_
  refine wp_iload_n dX11_turn_9 rfl rfl ?_
  refine wp_if_eq (tgt := 25) dX11_turn_10 rfl (fun c2 => ?_) (fun c2 => ?_)
  ·
    refine wp_iload_n dX11_turn_25 rfl rfl ?_
    exact wp_zreturn dX11_turn_26 rfl ⟨rfl, rfl⟩ (q1.1 c2).1 ⟨rfl, (q1.1 c2).2⟩
  ·
    refine wp_aload_n dX11_turn_13 rfl rfl ?_
    refine wp_getR (b := 142) dX11_turn_14 fX11_60 rfl sh0 (by decide) rfl ?_
    refine wp_sipush dX11_turn_17 (by decide) ?_
    refine wp_iload_n dX11_turn_20 rfl rfl ?_
    refine wp_iconst dX11_turn_21 (by decide) ?_
    refine wp_callV (S := []) (as := [vI 133, vI x1, vI 0]) dX11_turn_22 lX11_205 ((q1.2 c2)) (by omega) sh142 rfl rfl (Nat.le_of_ble_eq_true rfl) ⟨Nat.le_refl _, Nat.le_refl _⟩ ?_
    rintro _ _ V3 ⟨rfl, rfl, q3⟩
    show Wp _ _ _ _ _ 25 _ [] _ _ _ _ _
    refine wp_iload_n dX11_turn_25 rfl rfl ?_
    exact wp_zreturn dX11_turn_26 rfl ⟨rfl, rfl⟩ q3.1 ⟨rfl, q3.2⟩
set_option maxHeartbeats 4000000 in
set_option maxRecDepth 10000 in
theorem sX11_cross {K : KK} {d : Nat} {V : Mem} {Q : Option AV → Mem → Prop} (x1 : Int) (x2 : Int) (h : Mf K d mX7_crossOver [vR 43, vI x1, vI x2] V (fun r V1 => ∃ z1, r = some (vI z1) ∧ ((z1 = 0 → ((z1 = 0 ∨ z1 = 1) ∧ Q (some (vI z1)) V1)) ∧ (¬ (z1 = 0) → Mf K d mX3_add [vR 142, vI 134, vI x1, vI x2] V1 (fun r V3 => r = none ∧ ((z1 = 0 ∨ z1 = 1) ∧ Q (some (vI z1)) V3)))))) : Mf K (d + 1) mX11_cross [vR 0, vI x1, vI x2] V Q := by
  refine Mt.of2 (L := [some (vR 0), some (vI x1), some (vI x2), none]) pnX11 rfl rfl ?_
  refine wp_aload_n dX11_cross_0 rfl rfl ?_
  refine wp_getR (b := 43) dX11_cross_1 fX11_26 rfl sh0 (by decide) rfl ?_
  refine wp_iload_n dX11_cross_4 rfl rfl ?_
  refine wp_iload_n dX11_cross_5 rfl rfl ?_
  refine wp_callV (S := []) (as := [vI x1, vI x2]) dX11_cross_6 lX11_216 (h) (by omega) sh43 rfl rfl (Nat.le_of_ble_eq_true rfl) ⟨Nat.le_refl _, Nat.le_refl _⟩ ?_
  rintro _ _ V1 ⟨rfl, z1, rfl, q1⟩
  show Wp _ _ _ _ _ 9 _ [vI z1] _ _ _ _ _
  refine wp_istore_n dX11_cross_9 rfl (by decide) rfl ?_
  refine wp_iload_n dX11_cross_10 rfl rfl ?_
  refine wp_if_eq (tgt := 26) dX11_cross_11 rfl (fun c2 => ?_) (fun c2 => ?_)
  ·
    refine wp_iload_n dX11_cross_26 rfl rfl ?_
    exact wp_zreturn dX11_cross_27 rfl ⟨rfl, rfl⟩ (q1.1 c2).1 ⟨rfl, (q1.1 c2).2⟩
  ·
    refine wp_aload_n dX11_cross_14 rfl rfl ?_
    refine wp_getR (b := 142) dX11_cross_15 fX11_60 rfl sh0 (by decide) rfl ?_
    refine wp_sipush dX11_cross_18 (by decide) ?_
    refine wp_iload_n dX11_cross_21 rfl rfl ?_
    refine wp_iload_n dX11_cross_22 rfl rfl ?_
    refine wp_callV (S := []) (as := [vI 134, vI x1, vI x2]) dX11_cross_23 lX11_205 ((q1.2 c2)) (by omega) sh142 rfl rfl (Nat.le_of_ble_eq_true rfl) ⟨Nat.le_refl _, Nat.le_refl _⟩ ?_
    rintro _ _ V3 ⟨rfl, rfl, q3⟩
    show Wp _ _ _ _ _ 26 _ [] _ _ _ _ _
    refine wp_iload_n dX11_cross_26 rfl rfl ?_
    exact wp_zreturn dX11_cross_27 rfl ⟨rfl, rfl⟩ q3.1 ⟨rfl, q3.2⟩
set_option maxHeartbeats 4000000 in
set_option maxRecDepth 10000 in
theorem sX11_keep {K : KK} {d : Nat} {V : Mem} {Q : Option AV → Mem → Prop} (x1 : Int) (x2 : Int) (h : Mf K d mX7_combine [vR 43, vI x1, vI x2, vR 204] V (fun r V1 => ∃ z1, r = some (vI z1) ∧ ((z1 < 0 → Q (some (vI (-1))) V1) ∧ (¬ (z1 < 0) → (((V1 43 6) ≤ z1 → Q (some (vI (-1))) V1) ∧ (¬ ((V1 43 6) ≤ z1) → (((0 : Int) ≤ z1 ∧ z1 < (8 : Nat)) ∧ Mf K d mX3_add [vR 142, vI 135, vI z1, vI 0] (upm (upm V1 (57 + 2 * Int.toNat z1) 3 (V1 0 17)) 0 17 (w32 (((upm V1 (57 + 2 * Int.toNat z1) 3 (V1 0 17)) 0 17) + 1))) (fun r V5 => r = none ∧ Q (some (vI z1)) V5)))))))) : Mf K (d + 1) mX11_keep [vR 0, vI x1, vI x2] V Q := by
  refine Mt.of2 (L := [some (vR 0), some (vI x1), some (vI x2), none, none]) pnX11 rfl rfl ?_
  refine wp_aload_n dX11_keep_0 rfl rfl ?_
  refine wp_getR (b := 43) dX11_keep_1 fX11_26 rfl sh0 (by decide) rfl ?_
  refine wp_iload_n dX11_keep_4 rfl rfl ?_
  refine wp_iload_n dX11_keep_5 rfl rfl ?_
  refine wp_aload_n dX11_keep_6 rfl rfl ?_
  refine wp_getR (b := 204) dX11_keep_7 fX11_90 rfl sh0 (by decide) rfl ?_
  refine wp_callV (S := []) (as := [vI x1, vI x2, vR 204]) dX11_keep_10 lX11_220 (h) (by omega) sh43 rfl rfl (Nat.le_of_ble_eq_true rfl) ⟨Nat.le_refl _, Nat.le_refl _⟩ ?_
  rintro _ _ V1 ⟨rfl, z1, rfl, q1⟩
  show Wp _ _ _ _ _ 13 _ [vI z1] _ _ _ _ _
  refine wp_istore_n dX11_keep_13 rfl (by decide) rfl ?_
  refine wp_aload_n dX11_keep_14 rfl rfl ?_
  refine wp_getR (b := 43) dX11_keep_15 fX11_26 rfl sh0 (by decide) rfl ?_
  refine wp_iload_n dX11_keep_18 rfl rfl ?_
  refine wp_inlV (d' := d) (S := []) (as := [vI z1]) dX11_keep_19 lX11_178 (by omega) sh43 rfl rfl (Nat.le_of_ble_eq_true rfl) ⟨Nat.le_refl _, Nat.le_refl _⟩ (Mt.of2 (L := [some (vR 43), some (vI z1)]) pnX7 rfl rfl ?_)
  refine wp_iload_n dX7_braidAt_0 rfl rfl ?_
  refine wp_if_lt (tgt := 21) dX7_braidAt_1 rfl (fun c2 => ?_) (fun c2 => ?_)
  ·
    refine wp_null dX7_braidAt_21 ?_
    refine wp_areturn dX7_braidAt_22 rfl ⟨rfl, rfl⟩ ?_
    show Wp _ _ _ _ _ 22 _ [vN] _ _ _ _ _
    refine wp_astoreN dX11_keep_22 (by decide) rfl ?_
    refine wp_aloadN dX11_keep_24 rfl ?_
    refine wp_ifnonnullN dX11_keep_26 ?_
    refine wp_iconst dX11_keep_29 (by decide) ?_
    exact wp_ireturn dX11_keep_30 rfl ⟨rfl, rfl⟩ ⟨rfl, (q1.1 c2)⟩
  ·
    refine wp_iload_n dX7_braidAt_4 rfl rfl ?_
    refine wp_aload_n dX7_braidAt_5 rfl rfl ?_
    refine wp_getI dX7_braidAt_6 fX7_40 rfl sh43 (by decide) ?_
    refine wp_icmp_ge (tgt := 21) dX7_braidAt_9 rfl (fun c3 => ?_) (fun c3 => ?_)
    ·
      refine wp_null dX7_braidAt_21 ?_
      refine wp_areturn dX7_braidAt_22 rfl ⟨rfl, rfl⟩ ?_
      show Wp _ _ _ _ _ 22 _ [vN] _ _ _ _ _
      refine wp_astoreN dX11_keep_22 (by decide) rfl ?_
      refine wp_aloadN dX11_keep_24 rfl ?_
      refine wp_ifnonnullN dX11_keep_26 ?_
      refine wp_iconst dX11_keep_29 (by decide) ?_
      exact wp_ireturn dX11_keep_30 rfl ⟨rfl, rfl⟩ ⟨rfl, ((q1.2 c2).1 c3)⟩
    ·
      refine wp_aload_n dX7_braidAt_12 rfl rfl ?_
      refine wp_getR (b := 45) dX7_braidAt_13 fX7_19 rfl sh43 (by decide) rfl ?_
      refine wp_iload_n dX7_braidAt_16 rfl rfl ?_
      have g4 : (0 : Int) ≤ z1 ∧ z1 < (8 : Nat) := ((q1.2 c2).2 c3).1
      refine wp_aald (b := (57 + 2 * Int.toNat z1)) dX7_braidAt_17 sh45 (by decide) g4 (ap_get (b := 57) (s := 2) (n := 8) g4) ?_
      refine wp_goto (tgt := 22) dX7_braidAt_18 rfl ?_
      refine wp_areturn dX7_braidAt_22 rfl ⟨rfl, rfl⟩ ?_
      show Wp _ _ _ _ _ 22 _ [vR (57 + 2 * Int.toNat z1)] _ _ _ _ _
      refine wp_astore dX11_keep_22 (by decide) rfl ?_
      refine wp_aload dX11_keep_24 rfl ?_
      refine wp_ifnonnull (tgt := 31) dX11_keep_26 rfl ?_
      refine wp_aload dX11_keep_31 rfl ?_
      refine wp_aload_n dX11_keep_33 rfl rfl ?_
      refine wp_getI dX11_keep_34 fX11_137 rfl sh0 (by decide) ?_
      refine wp_putI dX11_keep_37 fwX11_191 rfl (obj45 g4).1 (by decide) ?_
      refine wp_aload_n dX11_keep_40 rfl rfl ?_
      refine wp_dup dX11_keep_41 rfl ?_
      refine wp_getI dX11_keep_42 fX11_137 rfl sh0 (by decide) ?_
      refine wp_iconst dX11_keep_45 (by decide) ?_
      refine wp_iadd dX11_keep_46 ?_
      refine wp_putI dX11_keep_47 fwX11_137 rfl sh0 (by decide) ?_
      refine wp_aload_n dX11_keep_50 rfl rfl ?_
      refine wp_getR (b := 142) dX11_keep_51 fX11_60 rfl sh0 (by decide) rfl ?_
      refine wp_sipush dX11_keep_54 (by decide) ?_
      refine wp_iload_n dX11_keep_57 rfl rfl ?_
      refine wp_iconst dX11_keep_58 (by decide) ?_
      refine wp_callV (S := []) (as := [vI 135, vI z1, vI 0]) dX11_keep_59 lX11_205 (((q1.2 c2).2 c3).2) (by omega) sh142 rfl rfl (Nat.le_of_ble_eq_true rfl) ⟨Nat.le_refl _, Nat.le_refl _⟩ ?_
      rintro _ _ V5 ⟨rfl, rfl, q5⟩
      show Wp _ _ _ _ _ 62 _ [] _ _ _ _ _
      refine wp_iload_n dX11_keep_62 rfl rfl ?_
      exact wp_ireturn dX11_keep_63 rfl ⟨rfl, rfl⟩ ⟨rfl, q5⟩
set_option maxHeartbeats 4000000 in
set_option maxRecDepth 10000 in
theorem sX11_undo {K : KK} {d : Nat} {V : Mem} {Q : Option AV → Mem → Prop}  (h : ((0 ≤ (w32 ((V 142 3) - 1)) → Mf K d mX3_whichOf [vR 142, vI (w32 ((V 142 3) - 1))] V (fun r V2 => ∃ z2, r = some (vI z2) ∧ Mf K d mX3_valueOf [vR 142, vI (w32 ((V 142 3) - 1))] V2 (fun r V3 => ∃ z3, r = some (vI z3) ∧ Mf K d mX3_verbOf [vR 142, vI (w32 ((V 142 3) - 1))] V3 (fun r V4 => ∃ z4, r = some (vI z4) ∧ ((z4 = 131 → Mf K d mX7_shrink [vR 43, vI z2] V4 (fun r V5 => ∃ z5, r = some (vI z5) ∧ Q (some (vI 1)) (upm V5 142 3 (w32 ((V 142 3) - 1))))) ∧ (z4 = 132 → Mf K d mX7_grow [vR 43, vI z2, vI z3] V4 (fun r V6 => ∃ z6, r = some (vI z6) ∧ Q (some (vI 1)) (upm V6 142 3 (w32 ((V 142 3) - 1))))) ∧ (z4 = 133 → Mf K d mX7_reverse [vR 43, vI z2] V4 (fun r V7 => ∃ z7, r = some (vI z7) ∧ Q (some (vI 1)) (upm V7 142 3 (w32 ((V 142 3) - 1))))) ∧ (z4 = 134 → Mf K d mX7_crossBack [vR 43, vI z2, vI z3] V4 (fun r V8 => r = none ∧ Q (some (vI 1)) (upm V8 142 3 (w32 ((V 142 3) - 1))))) ∧ ((z4 < 131 ∨ 134 < z4) → (((V4 43 6) ≤ 0 → Q (some (vI 1)) (upm V4 142 3 (w32 ((V 142 3) - 1)))) ∧ (¬ ((V4 43 6) ≤ 0) → Q (some (vI 1)) (upm (upm V4 43 6 (w32 ((V4 43 6) - 1))) 142 3 (w32 ((V 142 3) - 1))))))))))) ∧ (¬ (0 ≤ (w32 ((V 142 3) - 1))) → Q (some (vI 0)) V))) : Mf K (d + 1) mX11_undo [vR 0] V Q := by
  refine Mt.of2 (L := [some (vR 0), none, none, none]) pnX11 rfl rfl ?_
  refine wp_aload_n dX11_undo_0 rfl rfl ?_
  refine wp_getR (b := 142) dX11_undo_1 fX11_60 rfl sh0 (by decide) rfl ?_
  refine wp_getI dX11_undo_4 fX11_131 rfl sh142 (by decide) ?_
  refine wp_iconst dX11_undo_7 (by decide) ?_
  refine wp_isub dX11_undo_8 ?_
  refine wp_istore_n dX11_undo_9 rfl (by decide) rfl ?_
  refine wp_iload_n dX11_undo_10 rfl rfl ?_
  refine wp_if_ge (tgt := 16) dX11_undo_11 rfl (fun c1 => ?_) (fun c1 => ?_)
  ·
    refine wp_aload_n dX11_undo_16 rfl rfl ?_
    refine wp_getR (b := 142) dX11_undo_17 fX11_60 rfl sh0 (by decide) rfl ?_
    refine wp_iload_n dX11_undo_20 rfl rfl ?_
    refine wp_callV (S := []) (as := [vI (w32 ((V 142 3) - 1))]) dX11_undo_21 lX11_224 ((h.1 c1)) (by omega) sh142 rfl rfl (Nat.le_of_ble_eq_true rfl) ⟨Nat.le_refl _, Nat.le_refl _⟩ ?_
    rintro _ _ V2 ⟨rfl, z2, rfl, q2⟩
    show Wp _ _ _ _ _ 24 _ [vI z2] _ _ _ _ _
    refine wp_istore_n dX11_undo_24 rfl (by decide) rfl ?_
    refine wp_aload_n dX11_undo_25 rfl rfl ?_
    refine wp_getR (b := 142) dX11_undo_26 fX11_60 rfl sh0 (by decide) rfl ?_
    refine wp_iload_n dX11_undo_29 rfl rfl ?_
    refine wp_callV (S := []) (as := [vI (w32 ((V 142 3) - 1))]) dX11_undo_30 lX11_227 (q2) (by omega) sh142 rfl rfl (Nat.le_of_ble_eq_true rfl) ⟨Nat.le_refl _, Nat.le_refl _⟩ ?_
    rintro _ _ V3 ⟨rfl, z3, rfl, q3⟩
    show Wp _ _ _ _ _ 33 _ [vI z3] _ _ _ _ _
    refine wp_istore_n dX11_undo_33 rfl (by decide) rfl ?_
    refine wp_aload_n dX11_undo_34 rfl rfl ?_
    refine wp_getR (b := 142) dX11_undo_35 fX11_60 rfl sh0 (by decide) rfl ?_
    refine wp_iload_n dX11_undo_38 rfl rfl ?_
    refine wp_callV (S := []) (as := [vI (w32 ((V 142 3) - 1))]) dX11_undo_39 lX11_230 (q3) (by omega) sh142 rfl rfl (Nat.le_of_ble_eq_true rfl) ⟨Nat.le_refl _, Nat.le_refl _⟩ ?_
    rintro _ _ V4 ⟨rfl, z4, rfl, q4⟩
    show Wp _ _ _ _ _ 42 _ [vI z4] _ _ _ _ _
    refine tswS 131 134 z4 (fun o10 => ?_) (fun l10 u10 => ?_)
    ·
      refine wp_tswOut (tgt := 121) dX11_undo_42 o10 rfl ?_
      refine wp_aload_n dX11_undo_121 rfl rfl ?_
      refine wp_getR (b := 43) dX11_undo_122 fX11_26 rfl sh0 (by decide) rfl ?_
      refine wp_inlV (d' := d) (S := []) (as := []) dX11_undo_125 lX11_237 (by omega) sh43 rfl rfl (Nat.le_of_ble_eq_true rfl) ⟨Nat.le_refl _, Nat.le_refl _⟩ (Mt.of2 (L := [some (vR 43)]) pnX7 rfl rfl ?_)
      refine wp_aload_n dX7_dropBraid_0 rfl rfl ?_
      refine wp_getI dX7_dropBraid_1 fX7_40 rfl sh43 (by decide) ?_
      refine wp_if_le (tgt := 17) dX7_dropBraid_4 rfl (fun c9 => ?_) (fun c9 => ?_)
      ·
        refine wp_return dX7_dropBraid_17 rfl ⟨rfl, rfl⟩ ?_
        show Wp _ _ _ _ _ 128 _ [] _ _ _ _ _
        refine wp_aload_n dX11_undo_128 rfl rfl ?_
        refine wp_getR (b := 142) dX11_undo_129 fX11_60 rfl sh0 (by decide) rfl ?_
        refine wp_iload_n dX11_undo_132 rfl rfl ?_
        refine wp_putI dX11_undo_133 fwX11_131 rfl sh142 (by decide) ?_
        refine wp_iconst dX11_undo_136 (by decide) ?_
        exact wp_zreturn dX11_undo_137 rfl ⟨rfl, rfl⟩ (by decide) ⟨rfl, (((q4.2.2.2.2) o10).1 c9)⟩
      ·
        refine wp_aload_n dX7_dropBraid_7 rfl rfl ?_
        refine wp_dup dX7_dropBraid_8 rfl ?_
        refine wp_getI dX7_dropBraid_9 fX7_40 rfl sh43 (by decide) ?_
        refine wp_iconst dX7_dropBraid_12 (by decide) ?_
        refine wp_isub dX7_dropBraid_13 ?_
        refine wp_putI dX7_dropBraid_14 fwX7_40 rfl sh43 (by decide) ?_
        refine wp_return dX7_dropBraid_17 rfl ⟨rfl, rfl⟩ ?_
        show Wp _ _ _ _ _ 128 _ [] _ _ _ _ _
        refine wp_aload_n dX11_undo_128 rfl rfl ?_
        refine wp_getR (b := 142) dX11_undo_129 fX11_60 rfl sh0 (by decide) rfl ?_
        refine wp_iload_n dX11_undo_132 rfl rfl ?_
        refine wp_putI dX11_undo_133 fwX11_131 rfl sh142 (by decide) ?_
        refine wp_iconst dX11_undo_136 (by decide) ?_
        exact wp_zreturn dX11_undo_137 rfl ⟨rfl, rfl⟩ (by decide) ⟨rfl, (((q4.2.2.2.2) o10).2 c9)⟩
    ·
      rcases (show z4 = 131 ∨ z4 = 132 ∨ z4 = 133 ∨ z4 = 134 by omega) with e10 | e10 | e10 | e10
      ·
        refine wp_tswIn (tgt := 72) dX11_undo_42 l10 u10 (by rw [e10] <;> rfl) rfl ?_
        refine wp_aload_n dX11_undo_72 rfl rfl ?_
        refine wp_getR (b := 43) dX11_undo_73 fX11_26 rfl sh0 (by decide) rfl ?_
        refine wp_iload_n dX11_undo_76 rfl rfl ?_
        refine wp_callV (S := []) (as := [vI z2]) dX11_undo_77 lX11_209 (((q4.1) e10)) (by omega) sh43 rfl rfl (Nat.le_of_ble_eq_true rfl) ⟨Nat.le_refl _, Nat.le_refl _⟩ ?_
        rintro _ _ V5 ⟨rfl, z5, rfl, q5⟩
        show Wp _ _ _ _ _ 80 _ [vI z5] _ _ _ _ _
        refine wp_pop dX11_undo_80 rfl ?_
        refine wp_goto (tgt := 128) dX11_undo_81 rfl ?_
        refine wp_aload_n dX11_undo_128 rfl rfl ?_
        refine wp_getR (b := 142) dX11_undo_129 fX11_60 rfl sh0 (by decide) rfl ?_
        refine wp_iload_n dX11_undo_132 rfl rfl ?_
        refine wp_putI dX11_undo_133 fwX11_131 rfl sh142 (by decide) ?_
        refine wp_iconst dX11_undo_136 (by decide) ?_
        exact wp_zreturn dX11_undo_137 rfl ⟨rfl, rfl⟩ (by decide) ⟨rfl, q5⟩
      ·
        refine wp_tswIn (tgt := 84) dX11_undo_42 l10 u10 (by rw [e10] <;> rfl) rfl ?_
        refine wp_aload_n dX11_undo_84 rfl rfl ?_
        refine wp_getR (b := 43) dX11_undo_85 fX11_26 rfl sh0 (by decide) rfl ?_
        refine wp_iload_n dX11_undo_88 rfl rfl ?_
        refine wp_iload_n dX11_undo_89 rfl rfl ?_
        refine wp_callV (S := []) (as := [vI z2, vI z3]) dX11_undo_90 lX11_201 (((q4.2.1) e10)) (by omega) sh43 rfl rfl (Nat.le_of_ble_eq_true rfl) ⟨Nat.le_refl _, Nat.le_refl _⟩ ?_
        rintro _ _ V6 ⟨rfl, z6, rfl, q6⟩
        show Wp _ _ _ _ _ 93 _ [vI z6] _ _ _ _ _
        refine wp_pop dX11_undo_93 rfl ?_
        refine wp_goto (tgt := 128) dX11_undo_94 rfl ?_
        refine wp_aload_n dX11_undo_128 rfl rfl ?_
        refine wp_getR (b := 142) dX11_undo_129 fX11_60 rfl sh0 (by decide) rfl ?_
        refine wp_iload_n dX11_undo_132 rfl rfl ?_
        refine wp_putI dX11_undo_133 fwX11_131 rfl sh142 (by decide) ?_
        refine wp_iconst dX11_undo_136 (by decide) ?_
        exact wp_zreturn dX11_undo_137 rfl ⟨rfl, rfl⟩ (by decide) ⟨rfl, q6⟩
      ·
        refine wp_tswIn (tgt := 97) dX11_undo_42 l10 u10 (by rw [e10] <;> rfl) rfl ?_
        refine wp_aload_n dX11_undo_97 rfl rfl ?_
        refine wp_getR (b := 43) dX11_undo_98 fX11_26 rfl sh0 (by decide) rfl ?_
        refine wp_iload_n dX11_undo_101 rfl rfl ?_
        refine wp_callV (S := []) (as := [vI z2]) dX11_undo_102 lX11_213 (((q4.2.2.1) e10)) (by omega) sh43 rfl rfl (Nat.le_of_ble_eq_true rfl) ⟨Nat.le_refl _, Nat.le_refl _⟩ ?_
        rintro _ _ V7 ⟨rfl, z7, rfl, q7⟩
        show Wp _ _ _ _ _ 105 _ [vI z7] _ _ _ _ _
        refine wp_pop dX11_undo_105 rfl ?_
        refine wp_goto (tgt := 128) dX11_undo_106 rfl ?_
        refine wp_aload_n dX11_undo_128 rfl rfl ?_
        refine wp_getR (b := 142) dX11_undo_129 fX11_60 rfl sh0 (by decide) rfl ?_
        refine wp_iload_n dX11_undo_132 rfl rfl ?_
        refine wp_putI dX11_undo_133 fwX11_131 rfl sh142 (by decide) ?_
        refine wp_iconst dX11_undo_136 (by decide) ?_
        exact wp_zreturn dX11_undo_137 rfl ⟨rfl, rfl⟩ (by decide) ⟨rfl, q7⟩
      ·
        refine wp_tswIn (tgt := 109) dX11_undo_42 l10 u10 (by rw [e10] <;> rfl) rfl ?_
        refine wp_aload_n dX11_undo_109 rfl rfl ?_
        refine wp_getR (b := 43) dX11_undo_110 fX11_26 rfl sh0 (by decide) rfl ?_
        refine wp_iload_n dX11_undo_113 rfl rfl ?_
        refine wp_iload_n dX11_undo_114 rfl rfl ?_
        refine wp_callV (S := []) (as := [vI z2, vI z3]) dX11_undo_115 lX11_233 (((q4.2.2.2.1) e10)) (by omega) sh43 rfl rfl (Nat.le_of_ble_eq_true rfl) ⟨Nat.le_refl _, Nat.le_refl _⟩ ?_
        rintro _ _ V8 ⟨rfl, rfl, q8⟩
        show Wp _ _ _ _ _ 118 _ [] _ _ _ _ _
        refine wp_goto (tgt := 128) dX11_undo_118 rfl ?_
        refine wp_aload_n dX11_undo_128 rfl rfl ?_
        refine wp_getR (b := 142) dX11_undo_129 fX11_60 rfl sh0 (by decide) rfl ?_
        refine wp_iload_n dX11_undo_132 rfl rfl ?_
        refine wp_putI dX11_undo_133 fwX11_131 rfl sh142 (by decide) ?_
        refine wp_iconst dX11_undo_136 (by decide) ?_
        exact wp_zreturn dX11_undo_137 rfl ⟨rfl, rfl⟩ (by decide) ⟨rfl, q8⟩
  ·
    refine wp_iconst dX11_undo_14 (by decide) ?_
    exact wp_zreturn dX11_undo_15 rfl ⟨rfl, rfl⟩ (by decide) ⟨rfl, (h.2 c1)⟩
set_option maxHeartbeats 4000000 in
set_option maxRecDepth 10000 in
theorem sX11_mark {K : KK} {d : Nat} {V : Mem} {Q : Option AV → Mem → Prop} (x1 : Int) (x2 : Int) (h : ((x1 < 0 → Q (some (vI 0)) V) ∧ (¬ (x1 < 0) → ((x1 < 4 → ((¬ x2 = 0 → (((0 : Int) ≤ x1 ∧ x1 < (4 : Nat)) ∧ ((¬ (V 134 (Int.toNat x1)) = 0 → (((0 : Int) ≤ x1 ∧ x1 < (4 : Nat)) ∧ Mf K d mX7_copyFrom [vR 43, vR (249 + 30 * Int.toNat x1)] V (fun r V6 => r = none ∧ Q (some (vI 1)) (upm V6 142 3 0)))) ∧ ((V 134 (Int.toNat x1)) = 0 → Q (some (vI 0)) V)))) ∧ (x2 = 0 → (((0 : Int) ≤ x1 ∧ x1 < (4 : Nat)) ∧ Mf K d mX7_copyFrom [vR (249 + 30 * Int.toNat x1), vR 43] V (fun r V8 => r = none ∧ (((0 : Int) ≤ x1 ∧ x1 < (4 : Nat)) ∧ ((1 : Int) = 0 ∨ (1 : Int) = 1) ∧ Q (some (vI 1)) (upm V8 134 (Int.toNat x1) 1))))))) ∧ (¬ (x1 < 4) → Q (some (vI 0)) V))))) : Mf K (d + 1) mX11_mark [vR 0, vI x1, vI x2] V Q := by
  refine Mt.of2 (L := [some (vR 0), some (vI x1), some (vI x2)]) pnX11 rfl rfl ?_
  refine wp_iload_n dX11_mark_0 rfl rfl ?_
  refine wp_if_lt (tgt := 9) dX11_mark_1 rfl (fun c1 => ?_) (fun c1 => ?_)
  ·
    refine wp_iconst dX11_mark_9 (by decide) ?_
    exact wp_zreturn dX11_mark_10 rfl ⟨rfl, rfl⟩ (by decide) ⟨rfl, (h.1 c1)⟩
  ·
    refine wp_iload_n dX11_mark_4 rfl rfl ?_
    refine wp_iconst dX11_mark_5 (by decide) ?_
    refine wp_icmp_lt (tgt := 11) dX11_mark_6 rfl (fun c2 => ?_) (fun c2 => ?_)
    ·
      refine wp_iload_n dX11_mark_11 rfl rfl ?_
      refine wp_if_ne (tgt := 37) dX11_mark_12 rfl (fun c3 => ?_) (fun c3 => ?_)
      ·
        refine wp_aload_n dX11_mark_37 rfl rfl ?_
        refine wp_getR (b := 134) dX11_mark_38 fX11_40 rfl sh0 (by decide) rfl ?_
        refine wp_iload_n dX11_mark_41 rfl rfl ?_
        refine wp_zald dX11_mark_42 sh134 (((h.2 c1).1 c2).1 c3).1 ?_
        refine wp_if_ne (tgt := 48) dX11_mark_43 rfl (fun c4 => ?_) (fun c4 => ?_)
        ·
          refine wp_aload_n dX11_mark_48 rfl rfl ?_
          refine wp_getR (b := 43) dX11_mark_49 fX11_26 rfl sh0 (by decide) rfl ?_
          refine wp_aload_n dX11_mark_52 rfl rfl ?_
          refine wp_getR (b := 133) dX11_mark_53 fX11_36 rfl sh0 (by decide) rfl ?_
          refine wp_iload_n dX11_mark_56 rfl rfl ?_
          have g5 : (0 : Int) ≤ x1 ∧ x1 < (4 : Nat) := ((((h.2 c1).1 c2).1 c3).2.1 c4).1
          refine wp_aald (b := (249 + 30 * Int.toNat x1)) dX11_mark_57 sh133 (by decide) g5 (ap_get (b := 249) (s := 30) (n := 4) g5) ?_
          refine wp_callV (S := []) (as := [vR (249 + 30 * Int.toNat x1)]) dX11_mark_58 lX11_123 (((((h.2 c1).1 c2).1 c3).2.1 c4).2) (by omega) sh43 rfl rfl (Nat.le_of_ble_eq_true rfl) ⟨Nat.le_refl _, Nat.le_refl _⟩ ?_
          rintro _ _ V6 ⟨rfl, rfl, q6⟩
          show Wp _ _ _ _ _ 61 _ [] _ _ _ _ _
          refine wp_aload_n dX11_mark_61 rfl rfl ?_
          refine wp_getR (b := 142) dX11_mark_62 fX11_60 rfl sh0 (by decide) rfl ?_
          refine wp_iconst dX11_mark_65 (by decide) ?_
          refine wp_putI dX11_mark_66 fwX11_131 rfl sh142 (by decide) ?_
          refine wp_iconst dX11_mark_69 (by decide) ?_
          exact wp_zreturn dX11_mark_70 rfl ⟨rfl, rfl⟩ (by decide) ⟨rfl, q6⟩
        ·
          refine wp_iconst dX11_mark_46 (by decide) ?_
          exact wp_zreturn dX11_mark_47 rfl ⟨rfl, rfl⟩ (by decide) ⟨rfl, ((((h.2 c1).1 c2).1 c3).2.2 c4)⟩
      ·
        refine wp_aload_n dX11_mark_15 rfl rfl ?_
        refine wp_getR (b := 133) dX11_mark_16 fX11_36 rfl sh0 (by decide) rfl ?_
        refine wp_iload_n dX11_mark_19 rfl rfl ?_
        have g7 : (0 : Int) ≤ x1 ∧ x1 < (4 : Nat) := (((h.2 c1).1 c2).2 c3).1
        refine wp_aald (b := (249 + 30 * Int.toNat x1)) dX11_mark_20 sh133 (by decide) g7 (ap_get (b := 249) (s := 30) (n := 4) g7) ?_
        refine wp_aload_n dX11_mark_21 rfl rfl ?_
        refine wp_getR (b := 43) dX11_mark_22 fX11_26 rfl sh0 (by decide) rfl ?_
        refine wp_callV (S := []) (as := [vR 43]) dX11_mark_25 lX11_123 ((((h.2 c1).1 c2).2 c3).2) (by omega) (obj133 g7).1 rfl rfl (Nat.le_of_ble_eq_true rfl) ⟨Nat.le_refl _, Nat.le_refl _⟩ ?_
        rintro _ _ V8 ⟨rfl, rfl, q8⟩
        show Wp _ _ _ _ _ 28 _ [] _ _ _ _ _
        refine wp_aload_n dX11_mark_28 rfl rfl ?_
        refine wp_getR (b := 134) dX11_mark_29 fX11_40 rfl sh0 (by decide) rfl ?_
        refine wp_iload_n dX11_mark_32 rfl rfl ?_
        refine wp_iconst dX11_mark_33 (by decide) ?_
        refine wp_zast dX11_mark_34 sh134 q8.1 q8.2.1 ?_
        refine wp_iconst dX11_mark_35 (by decide) ?_
        exact wp_zreturn dX11_mark_36 rfl ⟨rfl, rfl⟩ (by decide) ⟨rfl, q8.2.2⟩
    ·
      refine wp_iconst dX11_mark_9 (by decide) ?_
      exact wp_zreturn dX11_mark_10 rfl ⟨rfl, rfl⟩ (by decide) ⟨rfl, ((h.2 c1).2 c2)⟩
set_option maxHeartbeats 4000000 in
set_option maxRecDepth 10000 in
theorem sX11_judged {K : KK} {d : Nat} {V : Mem} {Q : Option AV → Mem → Prop} (x1 : Int) (h : ((x1 < 0 → Q (some (vI (-2))) V) ∧ (¬ (x1 < 0) → ((x1 ≤ 2 → Mf K d mX7_copyFrom [vR 103, vR 73] V (fun r V3 => r = none ∧ Wf K (d + 1) mX11_judged 27 [some (vR 0), some (vI x1), some (vI (-1)), some (vI 0), none] [] V3 Q)) ∧ (¬ (x1 ≤ 2) → Q (some (vI (-2))) V))))) : Mf K (d + 1) mX11_judged [vR 0, vI x1] V Q := by
  refine Mt.of2 (L := [some (vR 0), some (vI x1), none, none, none]) pnX11 rfl rfl ?_
  refine wp_iload_n dX11_judged_0 rfl rfl ?_
  refine wp_if_lt (tgt := 9) dX11_judged_1 rfl (fun c1 => ?_) (fun c1 => ?_)
  ·
    refine wp_bipush dX11_judged_9 (by decide) ?_
    exact wp_ireturn dX11_judged_11 rfl ⟨rfl, rfl⟩ ⟨rfl, (h.1 c1)⟩
  ·
    refine wp_iload_n dX11_judged_4 rfl rfl ?_
    refine wp_iconst dX11_judged_5 (by decide) ?_
    refine wp_icmp_le (tgt := 12) dX11_judged_6 rfl (fun c2 => ?_) (fun c2 => ?_)
    ·
      refine wp_aload_n dX11_judged_12 rfl rfl ?_
      refine wp_getR (b := 103) dX11_judged_13 fX11_33 rfl sh0 (by decide) rfl ?_
      refine wp_aload_n dX11_judged_16 rfl rfl ?_
      refine wp_getR (b := 73) dX11_judged_17 fX11_30 rfl sh0 (by decide) rfl ?_
      refine wp_callV (S := []) (as := [vR 73]) dX11_judged_20 lX11_123 (((h.2 c1).1 c2)) (by omega) sh103 rfl rfl (Nat.le_of_ble_eq_true rfl) ⟨Nat.le_refl _, Nat.le_refl _⟩ ?_
      rintro _ _ V3 ⟨rfl, rfl, q3⟩
      show Wp _ _ _ _ _ 23 _ [] _ _ _ _ _
      refine wp_iconst dX11_judged_23 (by decide) ?_
      refine wp_istore_n dX11_judged_24 rfl (by decide) rfl ?_
      refine wp_iconst dX11_judged_25 (by decide) ?_
      refine wp_istore_n dX11_judged_26 rfl (by decide) rfl ?_
      exact q3
    ·
      refine wp_bipush dX11_judged_9 (by decide) ?_
      exact wp_ireturn dX11_judged_11 rfl ⟨rfl, rfl⟩ ⟨rfl, ((h.2 c1).2 c2)⟩
set_option maxHeartbeats 4000000 in
set_option maxRecDepth 10000 in
theorem sX11_judged_27 {K : KK} {d : Nat} {V : Mem} {Q : Option AV → Mem → Prop} (x1 : Int) (x2 : Int) (x3 : Int) (h : (((V 138 3) ≤ x3 → ((¬ x1 = 0 → ((¬ x1 = 1 → Q (some (vI (V 103 6))) V) ∧ (x1 = 1 → Mf K d mX7_allNumbers [vR 103] V (fun r V4 => ∃ z4, r = some (vI z4) ∧ Q (some (vI z4)) V4)))) ∧ (x1 = 0 → Q (some (vI x2)) V))) ∧ (¬ ((V 138 3) ≤ x3) → Mf K d mX3_verbOf [vR 138, vI x3] V (fun r V5 => ∃ z5, r = some (vI z5) ∧ Mf K d mX3_whichOf [vR 138, vI x3] V5 (fun r V6 => ∃ z6, r = some (vI z6) ∧ Mf K d mX3_valueOf [vR 138, vI x3] V6 (fun r V7 => ∃ z7, r = some (vI z7) ∧ Mf K d mX11_doLine [vR 0, vR 103, vI z5, vI z6, vI z7] V7 (fun r V8 => ∃ z8, r = some (vI z8) ∧ ((¬ z8 = 0 → Wf K (d + 1) mX11_judged 27 [some (vR 0), some (vI x1), some (vI x2), some (vI (w32 (x3 + 1))), none] [] V8 Q) ∧ (z8 = 0 → ((¬ x2 = (-1) → Wf K (d + 1) mX11_judged 27 [some (vR 0), some (vI x1), some (vI x2), some (vI (w32 (x3 + 1))), none] [] V8 Q) ∧ (x2 = (-1) → Wf K (d + 1) mX11_judged 27 [some (vR 0), some (vI x1), some (vI x3), some (vI (w32 (x3 + 1))), none] [] V8 Q))))))))))) : Wf K (d + 1) mX11_judged 27 [some (vR 0), some (vI x1), some (vI x2), some (vI x3), none] [] V Q := by
  refine wp_iload_n dX11_judged_27 rfl rfl ?_
  refine wp_aload_n dX11_judged_28 rfl rfl ?_
  refine wp_getR (b := 138) dX11_judged_29 fX11_56 rfl sh0 (by decide) rfl ?_
  refine wp_getI dX11_judged_32 fX11_131 rfl sh138 (by decide) ?_
  refine wp_icmp_ge (tgt := 90) dX11_judged_35 rfl (fun c1 => ?_) (fun c1 => ?_)
  ·
    refine wp_iload_n dX11_judged_90 rfl rfl ?_
    refine wp_if_ne (tgt := 96) dX11_judged_91 rfl (fun c2 => ?_) (fun c2 => ?_)
    ·
      refine wp_iload_n dX11_judged_96 rfl rfl ?_
      refine wp_iconst dX11_judged_97 (by decide) ?_
      refine wp_icmp_ne (tgt := 111) dX11_judged_98 rfl (fun c3 => ?_) (fun c3 => ?_)
      ·
        refine wp_aload_n dX11_judged_111 rfl rfl ?_
        refine wp_getR (b := 103) dX11_judged_112 fX11_33 rfl sh0 (by decide) rfl ?_
        refine wp_getI dX11_judged_115 fX11_134 rfl sh103 (by decide) ?_
        exact wp_ireturn dX11_judged_118 rfl ⟨rfl, rfl⟩ ⟨rfl, (((h.1 c1).1 c2).1 c3)⟩
      ·
        refine wp_aload_n dX11_judged_101 rfl rfl ?_
        refine wp_getR (b := 103) dX11_judged_102 fX11_33 rfl sh0 (by decide) rfl ?_
        refine wp_callV (S := []) (as := []) dX11_judged_105 lX11_195 ((((h.1 c1).1 c2).2 c3)) (by omega) sh103 rfl rfl (Nat.le_of_ble_eq_true rfl) ⟨Nat.le_refl _, Nat.le_refl _⟩ ?_
        rintro _ _ V4 ⟨rfl, z4, rfl, q4⟩
        show Wp _ _ _ _ _ 108 _ [vI z4] _ _ _ _ _
        refine wp_goto (tgt := 118) dX11_judged_108 rfl ?_
        exact wp_ireturn dX11_judged_118 rfl ⟨rfl, rfl⟩ ⟨rfl, q4⟩
    ·
      refine wp_iload_n dX11_judged_94 rfl rfl ?_
      exact wp_ireturn dX11_judged_95 rfl ⟨rfl, rfl⟩ ⟨rfl, ((h.1 c1).2 c2)⟩
  ·
    refine wp_aload_n dX11_judged_38 rfl rfl ?_
    refine wp_aload_n dX11_judged_39 rfl rfl ?_
    refine wp_getR (b := 103) dX11_judged_40 fX11_33 rfl sh0 (by decide) rfl ?_
    refine wp_aload_n dX11_judged_43 rfl rfl ?_
    refine wp_getR (b := 138) dX11_judged_44 fX11_56 rfl sh0 (by decide) rfl ?_
    refine wp_iload_n dX11_judged_47 rfl rfl ?_
    refine wp_callV (S := [vR 103, vR 0]) (as := [vI x3]) dX11_judged_48 lX11_230 ((h.2 c1)) (by omega) sh138 rfl rfl (Nat.le_of_ble_eq_true rfl) ⟨Nat.le_refl _, Nat.le_refl _⟩ ?_
    rintro _ _ V5 ⟨rfl, z5, rfl, q5⟩
    show Wp _ _ _ _ _ 51 _ [vI z5, vR 103, vR 0] _ _ _ _ _
    refine wp_aload_n dX11_judged_51 rfl rfl ?_
    refine wp_getR (b := 138) dX11_judged_52 fX11_56 rfl sh0 (by decide) rfl ?_
    refine wp_iload_n dX11_judged_55 rfl rfl ?_
    refine wp_callV (S := [vI z5, vR 103, vR 0]) (as := [vI x3]) dX11_judged_56 lX11_224 (q5) (by omega) sh138 rfl rfl (Nat.le_of_ble_eq_true rfl) ⟨Nat.le_refl _, Nat.le_refl _⟩ ?_
    rintro _ _ V6 ⟨rfl, z6, rfl, q6⟩
    show Wp _ _ _ _ _ 59 _ [vI z6, vI z5, vR 103, vR 0] _ _ _ _ _
    refine wp_aload_n dX11_judged_59 rfl rfl ?_
    refine wp_getR (b := 138) dX11_judged_60 fX11_56 rfl sh0 (by decide) rfl ?_
    refine wp_iload_n dX11_judged_63 rfl rfl ?_
    refine wp_callV (S := [vI z6, vI z5, vR 103, vR 0]) (as := [vI x3]) dX11_judged_64 lX11_227 (q6) (by omega) sh138 rfl rfl (Nat.le_of_ble_eq_true rfl) ⟨Nat.le_refl _, Nat.le_refl _⟩ ?_
    rintro _ _ V7 ⟨rfl, z7, rfl, q7⟩
    show Wp _ _ _ _ _ 67 _ [vI z7, vI z6, vI z5, vR 103, vR 0] _ _ _ _ _
    refine wp_callV (S := []) (as := [vR 103, vI z5, vI z6, vI z7]) dX11_judged_67 lX11_240 (q7) (by omega) sh0 rfl rfl (Nat.le_of_ble_eq_true rfl) ⟨Nat.le_refl _, Nat.le_refl _⟩ ?_
    rintro _ _ V8 ⟨rfl, z8, rfl, q8⟩
    show Wp _ _ _ _ _ 70 _ [vI z8] _ _ _ _ _
    refine wp_istore dX11_judged_70 (by decide) rfl ?_
    refine wp_iload dX11_judged_72 rfl ?_
    refine wp_if_ne (tgt := 84) dX11_judged_74 rfl (fun c9 => ?_) (fun c9 => ?_)
    ·
      refine wp_iinc dX11_judged_84 rfl rfl ?_
      refine wp_goto (tgt := 27) dX11_judged_87 rfl ?_
      exact wp_loc (L2 := [some (vR 0), some (vI x1), some (vI x2), some (vI (w32 (x3 + 1))), none]) ⟨rfl, ⟨rfl, ⟨rfl, ⟨rfl, trivial⟩⟩⟩⟩ (q8.1 c9)
    ·
      refine wp_iload_n dX11_judged_77 rfl rfl ?_
      refine wp_iconst dX11_judged_78 (by decide) ?_
      refine wp_icmp_ne (tgt := 84) dX11_judged_79 rfl (fun c10 => ?_) (fun c10 => ?_)
      ·
        refine wp_iinc dX11_judged_84 rfl rfl ?_
        refine wp_goto (tgt := 27) dX11_judged_87 rfl ?_
        exact wp_loc (L2 := [some (vR 0), some (vI x1), some (vI x2), some (vI (w32 (x3 + 1))), none]) ⟨rfl, ⟨rfl, ⟨rfl, ⟨rfl, trivial⟩⟩⟩⟩ ((q8.2 c9).1 c10)
      ·
        refine wp_iload_n dX11_judged_82 rfl rfl ?_
        refine wp_istore_n dX11_judged_83 rfl (by decide) rfl ?_
        refine wp_iinc dX11_judged_84 rfl rfl ?_
        refine wp_goto (tgt := 27) dX11_judged_87 rfl ?_
        exact wp_loc (L2 := [some (vR 0), some (vI x1), some (vI x3), some (vI (w32 (x3 + 1))), none]) ⟨rfl, ⟨rfl, ⟨rfl, ⟨rfl, trivial⟩⟩⟩⟩ ((q8.2 c9).2 c10)
set_option maxHeartbeats 4000000 in
set_option maxRecDepth 10000 in
theorem sX11_doLine {K : KK} {d : Nat} {V : Mem} {Q : Option AV → Mem → Prop} (a1 : Nat) (x2 : Int) (x3 : Int) (x4 : Int) (h1 : IsStore a1) (h : ((x2 = 131 → Mf K d mX7_grow [vR a1, vI x3, vI x4] V (fun r V1 => ∃ z1, r = some (vI z1) ∧ ((z1 = (-1) → Q (some (vI 0)) V1) ∧ (¬ (z1 = (-1)) → Q (some (vI 1)) V1)))) ∧ (x2 = 132 → Mf K d mX7_shrink [vR a1, vI x3] V (fun r V3 => ∃ z3, r = some (vI z3) ∧ ((z3 = (-1) → Q (some (vI 0)) V3) ∧ (¬ (z3 = (-1)) → Q (some (vI 1)) V3)))) ∧ (x2 = 133 → Mf K d mX7_reverse [vR a1, vI x3] V (fun r V5 => ∃ z5, r = some (vI z5) ∧ ((z5 = 0 ∨ z5 = 1) ∧ Q (some (vI z5)) V5))) ∧ (x2 = 134 → Mf K d mX7_crossOver [vR a1, vI x3, vI x4] V (fun r V6 => ∃ z6, r = some (vI z6) ∧ ((z6 = 0 ∨ z6 = 1) ∧ Q (some (vI z6)) V6))) ∧ ((x2 < 131 ∨ 134 < x2) → Mf K d mX7_combine [vR a1, vI x3, vI x4, vR 204] V (fun r V7 => ∃ z7, r = some (vI z7) ∧ ((z7 = (-1) → Q (some (vI 0)) V7) ∧ (¬ (z7 = (-1)) → Q (some (vI 1)) V7)))))) : Mf K (d + 1) mX11_doLine [vR 0, vR a1, vI x2, vI x3, vI x4] V Q := by
  refine Mt.of2 (L := [some (vR 0), some (vR a1), some (vI x2), some (vI x3), some (vI x4)]) pnX11 rfl rfl ?_
  refine wp_iload_n dX11_doLine_0 rfl rfl ?_
  refine tswS 131 134 x2 (fun o9 => ?_) (fun l9 u9 => ?_)
  ·
    refine wp_tswOut (tgt := 78) dX11_doLine_1 o9 rfl ?_
    refine wp_aload_n dX11_doLine_78 rfl rfl ?_
    refine wp_iload_n dX11_doLine_79 rfl rfl ?_
    refine wp_iload dX11_doLine_80 rfl ?_
    refine wp_aload_n dX11_doLine_82 rfl rfl ?_
    refine wp_getR (b := 204) dX11_doLine_83 fX11_90 rfl sh0 (by decide) rfl ?_
    refine wp_callV (S := []) (as := [vI x3, vI x4, vR 204]) dX11_doLine_86 lX11_220 (((h.2.2.2.2) o9)) (by omega) h1.1 rfl rfl (Nat.le_of_ble_eq_true rfl) ⟨Nat.le_refl _, Nat.le_refl _⟩ ?_
    rintro _ _ V7 ⟨rfl, z7, rfl, q7⟩
    show Wp _ _ _ _ _ 89 _ [vI z7] _ _ _ _ _
    refine wp_iconst dX11_doLine_89 (by decide) ?_
    refine wp_icmp_eq (tgt := 97) dX11_doLine_90 rfl (fun c8 => ?_) (fun c8 => ?_)
    ·
      refine wp_iconst dX11_doLine_97 (by decide) ?_
      exact wp_zreturn dX11_doLine_98 rfl ⟨rfl, rfl⟩ (by decide) ⟨rfl, (q7.1 c8)⟩
    ·
      refine wp_iconst dX11_doLine_93 (by decide) ?_
      refine wp_goto (tgt := 98) dX11_doLine_94 rfl ?_
      exact wp_zreturn dX11_doLine_98 rfl ⟨rfl, rfl⟩ (by decide) ⟨rfl, (q7.2 c8)⟩
  ·
    rcases (show x2 = 131 ∨ x2 = 132 ∨ x2 = 133 ∨ x2 = 134 by omega) with e9 | e9 | e9 | e9
    ·
      refine wp_tswIn (tgt := 32) dX11_doLine_1 l9 u9 (by rw [e9] <;> rfl) rfl ?_
      refine wp_aload_n dX11_doLine_32 rfl rfl ?_
      refine wp_iload_n dX11_doLine_33 rfl rfl ?_
      refine wp_iload dX11_doLine_34 rfl ?_
      refine wp_callV (S := []) (as := [vI x3, vI x4]) dX11_doLine_36 lX11_201 (((h.1) e9)) (by omega) h1.1 rfl rfl (Nat.le_of_ble_eq_true rfl) ⟨Nat.le_refl _, Nat.le_refl _⟩ ?_
      rintro _ _ V1 ⟨rfl, z1, rfl, q1⟩
      show Wp _ _ _ _ _ 39 _ [vI z1] _ _ _ _ _
      refine wp_iconst dX11_doLine_39 (by decide) ?_
      refine wp_icmp_eq (tgt := 47) dX11_doLine_40 rfl (fun c2 => ?_) (fun c2 => ?_)
      ·
        refine wp_iconst dX11_doLine_47 (by decide) ?_
        exact wp_zreturn dX11_doLine_48 rfl ⟨rfl, rfl⟩ (by decide) ⟨rfl, (q1.1 c2)⟩
      ·
        refine wp_iconst dX11_doLine_43 (by decide) ?_
        refine wp_goto (tgt := 48) dX11_doLine_44 rfl ?_
        exact wp_zreturn dX11_doLine_48 rfl ⟨rfl, rfl⟩ (by decide) ⟨rfl, (q1.2 c2)⟩
    ·
      refine wp_tswIn (tgt := 49) dX11_doLine_1 l9 u9 (by rw [e9] <;> rfl) rfl ?_
      refine wp_aload_n dX11_doLine_49 rfl rfl ?_
      refine wp_iload_n dX11_doLine_50 rfl rfl ?_
      refine wp_callV (S := []) (as := [vI x3]) dX11_doLine_51 lX11_209 (((h.2.1) e9)) (by omega) h1.1 rfl rfl (Nat.le_of_ble_eq_true rfl) ⟨Nat.le_refl _, Nat.le_refl _⟩ ?_
      rintro _ _ V3 ⟨rfl, z3, rfl, q3⟩
      show Wp _ _ _ _ _ 54 _ [vI z3] _ _ _ _ _
      refine wp_iconst dX11_doLine_54 (by decide) ?_
      refine wp_icmp_eq (tgt := 62) dX11_doLine_55 rfl (fun c4 => ?_) (fun c4 => ?_)
      ·
        refine wp_iconst dX11_doLine_62 (by decide) ?_
        exact wp_zreturn dX11_doLine_63 rfl ⟨rfl, rfl⟩ (by decide) ⟨rfl, (q3.1 c4)⟩
      ·
        refine wp_iconst dX11_doLine_58 (by decide) ?_
        refine wp_goto (tgt := 63) dX11_doLine_59 rfl ?_
        exact wp_zreturn dX11_doLine_63 rfl ⟨rfl, rfl⟩ (by decide) ⟨rfl, (q3.2 c4)⟩
    ·
      refine wp_tswIn (tgt := 64) dX11_doLine_1 l9 u9 (by rw [e9] <;> rfl) rfl ?_
      refine wp_aload_n dX11_doLine_64 rfl rfl ?_
      refine wp_iload_n dX11_doLine_65 rfl rfl ?_
      refine wp_callV (S := []) (as := [vI x3]) dX11_doLine_66 lX11_213 (((h.2.2.1) e9)) (by omega) h1.1 rfl rfl (Nat.le_of_ble_eq_true rfl) ⟨Nat.le_refl _, Nat.le_refl _⟩ ?_
      rintro _ _ V5 ⟨rfl, z5, rfl, q5⟩
      show Wp _ _ _ _ _ 69 _ [vI z5] _ _ _ _ _
      exact wp_zreturn dX11_doLine_69 rfl ⟨rfl, rfl⟩ q5.1 ⟨rfl, q5.2⟩
    ·
      refine wp_tswIn (tgt := 70) dX11_doLine_1 l9 u9 (by rw [e9] <;> rfl) rfl ?_
      refine wp_aload_n dX11_doLine_70 rfl rfl ?_
      refine wp_iload_n dX11_doLine_71 rfl rfl ?_
      refine wp_iload dX11_doLine_72 rfl ?_
      refine wp_callV (S := []) (as := [vI x3, vI x4]) dX11_doLine_74 lX11_216 (((h.2.2.2.1) e9)) (by omega) h1.1 rfl rfl (Nat.le_of_ble_eq_true rfl) ⟨Nat.le_refl _, Nat.le_refl _⟩ ?_
      rintro _ _ V6 ⟨rfl, z6, rfl, q6⟩
      show Wp _ _ _ _ _ 77 _ [vI z6] _ _ _ _ _
      exact wp_zreturn dX11_doLine_77 rfl ⟨rfl, rfl⟩ q6.1 ⟨rfl, q6.2⟩
set_option maxHeartbeats 4000000 in
set_option maxRecDepth 10000 in
theorem sX11_chain {K : KK} {d : Nat} {V : Mem} {Q : Option AV → Mem → Prop} (x1 : Int) (x2 : Int) (x3 : Int) (h : Mf K d mX11_loadWindow [vR 0, vI x1, vI x2, vI x3] V (fun r V1 => ∃ z1, r = some (vI z1) ∧ ((z1 = 0 → Q (some (vI (-1))) V1) ∧ (¬ (z1 = 0) → Q (some (vI (V1 146 5))) V1)))) : Mf K (d + 1) mX11_chain [vR 0, vI x1, vI x2, vI x3] V Q := by
  refine Mt.of2 (L := [some (vR 0), some (vI x1), some (vI x2), some (vI x3)]) pnX11 rfl rfl ?_
  refine wp_aload_n dX11_chain_0 rfl rfl ?_
  refine wp_iload_n dX11_chain_1 rfl rfl ?_
  refine wp_iload_n dX11_chain_2 rfl rfl ?_
  refine wp_iload_n dX11_chain_3 rfl rfl ?_
  refine wp_callV (S := []) (as := [vI x1, vI x2, vI x3]) dX11_chain_4 lX11_244 (h) (by omega) sh0 rfl rfl (Nat.le_of_ble_eq_true rfl) ⟨Nat.le_refl _, Nat.le_refl _⟩ ?_
  rintro _ _ V1 ⟨rfl, z1, rfl, q1⟩
  show Wp _ _ _ _ _ 7 _ [vI z1] _ _ _ _ _
  refine wp_if_eq (tgt := 20) dX11_chain_7 rfl (fun c2 => ?_) (fun c2 => ?_)
  ·
    refine wp_iconst dX11_chain_20 (by decide) ?_
    exact wp_ireturn dX11_chain_21 rfl ⟨rfl, rfl⟩ ⟨rfl, (q1.1 c2)⟩
  ·
    refine wp_aload_n dX11_chain_10 rfl rfl ?_
    refine wp_getR (b := 146) dX11_chain_11 fX11_66 rfl sh0 (by decide) rfl ?_
    refine wp_getI dX11_chain_14 fX11_248 rfl sh146 (by decide) ?_
    refine wp_goto (tgt := 21) dX11_chain_17 rfl ?_
    exact wp_ireturn dX11_chain_21 rfl ⟨rfl, rfl⟩ ⟨rfl, (q1.2 c2)⟩
set_option maxHeartbeats 4000000 in
set_option maxRecDepth 10000 in
theorem sX11_pick {K : KK} {d : Nat} {V : Mem} {Q : Option AV → Mem → Prop} (x1 : Int) (x2 : Int) (x3 : Int) (x4 : Int) (h : Mf K d mX11_loadWindow [vR 0, vI x1, vI x2, vI x3] V (fun r V1 => ∃ z1, r = some (vI z1) ∧ ((z1 = 0 → Q (some (vI (-1))) V1) ∧ (¬ (z1 = 0) → Mf K d mX1_placeOfFirst [vR 146, vI x4] V1 (fun r V3 => ∃ z3, r = some (vI z3) ∧ Q (some (vI z3)) V3))))) : Mf K (d + 1) mX11_pick [vR 0, vI x1, vI x2, vI x3, vI x4] V Q := by
  refine Mt.of2 (L := [some (vR 0), some (vI x1), some (vI x2), some (vI x3), some (vI x4)]) pnX11 rfl rfl ?_
  refine wp_aload_n dX11_pick_0 rfl rfl ?_
  refine wp_iload_n dX11_pick_1 rfl rfl ?_
  refine wp_iload_n dX11_pick_2 rfl rfl ?_
  refine wp_iload_n dX11_pick_3 rfl rfl ?_
  refine wp_callV (S := []) (as := [vI x1, vI x2, vI x3]) dX11_pick_4 lX11_244 (h) (by omega) sh0 rfl rfl (Nat.le_of_ble_eq_true rfl) ⟨Nat.le_refl _, Nat.le_refl _⟩ ?_
  rintro _ _ V1 ⟨rfl, z1, rfl, q1⟩
  show Wp _ _ _ _ _ 7 _ [vI z1] _ _ _ _ _
  refine wp_if_eq (tgt := 22) dX11_pick_7 rfl (fun c2 => ?_) (fun c2 => ?_)
  ·
    refine wp_iconst dX11_pick_22 (by decide) ?_
    exact wp_ireturn dX11_pick_23 rfl ⟨rfl, rfl⟩ ⟨rfl, (q1.1 c2)⟩
  ·
    refine wp_aload_n dX11_pick_10 rfl rfl ?_
    refine wp_getR (b := 146) dX11_pick_11 fX11_66 rfl sh0 (by decide) rfl ?_
    refine wp_iload dX11_pick_14 rfl ?_
    refine wp_callV (S := []) (as := [vI x4]) dX11_pick_16 lX11_251 ((q1.2 c2)) (by omega) sh146 rfl rfl (Nat.le_of_ble_eq_true rfl) ⟨Nat.le_refl _, Nat.le_refl _⟩ ?_
    rintro _ _ V3 ⟨rfl, z3, rfl, q3⟩
    show Wp _ _ _ _ _ 19 _ [vI z3] _ _ _ _ _
    refine wp_goto (tgt := 23) dX11_pick_19 rfl ?_
    exact wp_ireturn dX11_pick_23 rfl ⟨rfl, rfl⟩ ⟨rfl, q3⟩
set_option maxHeartbeats 4000000 in
set_option maxRecDepth 10000 in
theorem sX11_ways {K : KK} {d : Nat} {V : Mem} {Q : Option AV → Mem → Prop} (x1 : Int) (x2 : Int) (x3 : Int) (h : Mf K d mX11_loadWindow [vR 0, vI x1, vI x2, vI x3] V (fun r V1 => ∃ z1, r = some (vI z1) ∧ ((z1 = 0 → Q (some (vI (-1))) V1) ∧ (¬ (z1 = 0) → Mf K d mX1_countWays [vR 146] V1 (fun r V3 => ∃ z3, r = some (vI z3) ∧ Q (some (vI z3)) V3))))) : Mf K (d + 1) mX11_ways [vR 0, vI x1, vI x2, vI x3] V Q := by
  refine Mt.of2 (L := [some (vR 0), some (vI x1), some (vI x2), some (vI x3)]) pnX11 rfl rfl ?_
  refine wp_aload_n dX11_ways_0 rfl rfl ?_
  refine wp_iload_n dX11_ways_1 rfl rfl ?_
  refine wp_iload_n dX11_ways_2 rfl rfl ?_
  refine wp_iload_n dX11_ways_3 rfl rfl ?_
  refine wp_callV (S := []) (as := [vI x1, vI x2, vI x3]) dX11_ways_4 lX11_244 (h) (by omega) sh0 rfl rfl (Nat.le_of_ble_eq_true rfl) ⟨Nat.le_refl _, Nat.le_refl _⟩ ?_
  rintro _ _ V1 ⟨rfl, z1, rfl, q1⟩
  show Wp _ _ _ _ _ 7 _ [vI z1] _ _ _ _ _
  refine wp_if_eq (tgt := 20) dX11_ways_7 rfl (fun c2 => ?_) (fun c2 => ?_)
  ·
    refine wp_iconst dX11_ways_20 (by decide) ?_
    exact wp_ireturn dX11_ways_21 rfl ⟨rfl, rfl⟩ ⟨rfl, (q1.1 c2)⟩
  ·
    refine wp_aload_n dX11_ways_10 rfl rfl ?_
    refine wp_getR (b := 146) dX11_ways_11 fX11_66 rfl sh0 (by decide) rfl ?_
    refine wp_callV (S := []) (as := []) dX11_ways_14 lX11_254 ((q1.2 c2)) (by omega) sh146 rfl rfl (Nat.le_of_ble_eq_true rfl) ⟨Nat.le_refl _, Nat.le_refl _⟩ ?_
    rintro _ _ V3 ⟨rfl, z3, rfl, q3⟩
    show Wp _ _ _ _ _ 17 _ [vI z3] _ _ _ _ _
    refine wp_goto (tgt := 21) dX11_ways_17 rfl ?_
    exact wp_ireturn dX11_ways_21 rfl ⟨rfl, rfl⟩ ⟨rfl, q3⟩
set_option maxHeartbeats 4000000 in
set_option maxRecDepth 10000 in
theorem sX11_must {K : KK} {d : Nat} {V : Mem} {Q : Option AV → Mem → Prop} (x1 : Int) (x2 : Int) (x3 : Int) (h : Mf K d mX11_loadWindow [vR 0, vI x1, vI x2, vI x3] V (fun r V1 => ∃ z1, r = some (vI z1) ∧ ((z1 = 0 → Q (some (vI (-1))) V1) ∧ (¬ (z1 = 0) → Mf K d mX1_mustBits [vR 146] V1 (fun r V3 => ∃ z3, r = some (vI z3) ∧ Q (some (vI z3)) V3))))) : Mf K (d + 1) mX11_must [vR 0, vI x1, vI x2, vI x3] V Q := by
  refine Mt.of2 (L := [some (vR 0), some (vI x1), some (vI x2), some (vI x3)]) pnX11 rfl rfl ?_
  refine wp_aload_n dX11_must_0 rfl rfl ?_
  refine wp_iload_n dX11_must_1 rfl rfl ?_
  refine wp_iload_n dX11_must_2 rfl rfl ?_
  refine wp_iload_n dX11_must_3 rfl rfl ?_
  refine wp_callV (S := []) (as := [vI x1, vI x2, vI x3]) dX11_must_4 lX11_244 (h) (by omega) sh0 rfl rfl (Nat.le_of_ble_eq_true rfl) ⟨Nat.le_refl _, Nat.le_refl _⟩ ?_
  rintro _ _ V1 ⟨rfl, z1, rfl, q1⟩
  show Wp _ _ _ _ _ 7 _ [vI z1] _ _ _ _ _
  refine wp_if_eq (tgt := 20) dX11_must_7 rfl (fun c2 => ?_) (fun c2 => ?_)
  ·
    refine wp_iconst dX11_must_20 (by decide) ?_
    exact wp_ireturn dX11_must_21 rfl ⟨rfl, rfl⟩ ⟨rfl, (q1.1 c2)⟩
  ·
    refine wp_aload_n dX11_must_10 rfl rfl ?_
    refine wp_getR (b := 146) dX11_must_11 fX11_66 rfl sh0 (by decide) rfl ?_
    refine wp_callV (S := []) (as := []) dX11_must_14 lX11_257 ((q1.2 c2)) (by omega) sh146 rfl rfl (Nat.le_of_ble_eq_true rfl) ⟨Nat.le_refl _, Nat.le_refl _⟩ ?_
    rintro _ _ V3 ⟨rfl, z3, rfl, q3⟩
    show Wp _ _ _ _ _ 17 _ [vI z3] _ _ _ _ _
    refine wp_goto (tgt := 21) dX11_must_17 rfl ?_
    exact wp_ireturn dX11_must_21 rfl ⟨rfl, rfl⟩ ⟨rfl, q3⟩
set_option maxHeartbeats 4000000 in
set_option maxRecDepth 10000 in
theorem sX11_may {K : KK} {d : Nat} {V : Mem} {Q : Option AV → Mem → Prop} (x1 : Int) (x2 : Int) (x3 : Int) (h : Mf K d mX11_loadWindow [vR 0, vI x1, vI x2, vI x3] V (fun r V1 => ∃ z1, r = some (vI z1) ∧ ((z1 = 0 → Q (some (vI (-1))) V1) ∧ (¬ (z1 = 0) → Mf K d mX1_mayBits [vR 146] V1 (fun r V3 => ∃ z3, r = some (vI z3) ∧ Q (some (vI z3)) V3))))) : Mf K (d + 1) mX11_may [vR 0, vI x1, vI x2, vI x3] V Q := by
  refine Mt.of2 (L := [some (vR 0), some (vI x1), some (vI x2), some (vI x3)]) pnX11 rfl rfl ?_
  refine wp_aload_n dX11_may_0 rfl rfl ?_
  refine wp_iload_n dX11_may_1 rfl rfl ?_
  refine wp_iload_n dX11_may_2 rfl rfl ?_
  refine wp_iload_n dX11_may_3 rfl rfl ?_
  refine wp_callV (S := []) (as := [vI x1, vI x2, vI x3]) dX11_may_4 lX11_244 (h) (by omega) sh0 rfl rfl (Nat.le_of_ble_eq_true rfl) ⟨Nat.le_refl _, Nat.le_refl _⟩ ?_
  rintro _ _ V1 ⟨rfl, z1, rfl, q1⟩
  show Wp _ _ _ _ _ 7 _ [vI z1] _ _ _ _ _
  refine wp_if_eq (tgt := 20) dX11_may_7 rfl (fun c2 => ?_) (fun c2 => ?_)
  ·
    refine wp_iconst dX11_may_20 (by decide) ?_
    exact wp_ireturn dX11_may_21 rfl ⟨rfl, rfl⟩ ⟨rfl, (q1.1 c2)⟩
  ·
    refine wp_aload_n dX11_may_10 rfl rfl ?_
    refine wp_getR (b := 146) dX11_may_11 fX11_66 rfl sh0 (by decide) rfl ?_
    refine wp_callV (S := []) (as := []) dX11_may_14 lX11_260 ((q1.2 c2)) (by omega) sh146 rfl rfl (Nat.le_of_ble_eq_true rfl) ⟨Nat.le_refl _, Nat.le_refl _⟩ ?_
    rintro _ _ V3 ⟨rfl, z3, rfl, q3⟩
    show Wp _ _ _ _ _ 17 _ [vI z3] _ _ _ _ _
    refine wp_goto (tgt := 21) dX11_may_17 rfl ?_
    exact wp_ireturn dX11_may_21 rfl ⟨rfl, rfl⟩ ⟨rfl, q3⟩
set_option maxHeartbeats 4000000 in
set_option maxRecDepth 10000 in
theorem sX11_bare {K : KK} {d : Nat} {V : Mem} {Q : Option AV → Mem → Prop} (x1 : Int) (x2 : Int) (x3 : Int) (h : Mf K d mX11_loadWindow [vR 0, vI x1, vI x2, vI x3] V (fun r V1 => ∃ z1, r = some (vI z1) ∧ ((z1 = 0 → Q (some (vI (-1))) V1) ∧ (¬ (z1 = 0) → Q (some (vI (w32 ((w32 (x3 - x2)) - (V1 146 5))))) V1)))) : Mf K (d + 1) mX11_bare [vR 0, vI x1, vI x2, vI x3] V Q := by
  refine Mt.of2 (L := [some (vR 0), some (vI x1), some (vI x2), some (vI x3)]) pnX11 rfl rfl ?_
  refine wp_aload_n dX11_bare_0 rfl rfl ?_
  refine wp_iload_n dX11_bare_1 rfl rfl ?_
  refine wp_iload_n dX11_bare_2 rfl rfl ?_
  refine wp_iload_n dX11_bare_3 rfl rfl ?_
  refine wp_callV (S := []) (as := [vI x1, vI x2, vI x3]) dX11_bare_4 lX11_244 (h) (by omega) sh0 rfl rfl (Nat.le_of_ble_eq_true rfl) ⟨Nat.le_refl _, Nat.le_refl _⟩ ?_
  rintro _ _ V1 ⟨rfl, z1, rfl, q1⟩
  show Wp _ _ _ _ _ 7 _ [vI z1] _ _ _ _ _
  refine wp_if_eq (tgt := 24) dX11_bare_7 rfl (fun c2 => ?_) (fun c2 => ?_)
  ·
    refine wp_iconst dX11_bare_24 (by decide) ?_
    exact wp_ireturn dX11_bare_25 rfl ⟨rfl, rfl⟩ ⟨rfl, (q1.1 c2)⟩
  ·
    refine wp_iload_n dX11_bare_10 rfl rfl ?_
    refine wp_iload_n dX11_bare_11 rfl rfl ?_
    refine wp_isub dX11_bare_12 ?_
    refine wp_aload_n dX11_bare_13 rfl rfl ?_
    refine wp_getR (b := 146) dX11_bare_14 fX11_66 rfl sh0 (by decide) rfl ?_
    refine wp_getI dX11_bare_17 fX11_248 rfl sh146 (by decide) ?_
    refine wp_isub dX11_bare_20 ?_
    refine wp_goto (tgt := 25) dX11_bare_21 rfl ?_
    exact wp_ireturn dX11_bare_25 rfl ⟨rfl, rfl⟩ ⟨rfl, (q1.2 c2)⟩
set_option maxHeartbeats 4000000 in
set_option maxRecDepth 10000 in
theorem sX11_piles {K : KK} {d : Nat} {V : Mem} {Q : Option AV → Mem → Prop} (x1 : Int) (x2 : Int) (x3 : Int) (x4 : Int) (h : ((x1 < 0 → Q (some (vI (-2))) V) ∧ (¬ (x1 < 0) → (((V 43 5) ≤ x1 → Q (some (vI (-2))) V) ∧ (¬ ((V 43 5) ≤ x1) → (((0 : Int) ≤ x1 ∧ x1 < (4 : Nat)) ∧ ((x2 < 0 → Q (some (vI (-2))) V) ∧ (¬ (x2 < 0) → ((x3 < x2 → Q (some (vI (-2))) V) ∧ (¬ (x3 < x2) → (((V (49 + 2 * Int.toNat x1) 3) < x3 → Q (some (vI (-2))) V) ∧ (¬ ((V (49 + 2 * Int.toNat x1) 3) < x3) → ((x4 = (-1) → Wf K (d + 1) mX11_piles 45 [some (vR 0), none, some (vI x2), some (vI x3), some (vI x4), some (vR (49 + 2 * Int.toNat x1))] [] V Q) ∧ (¬ (x4 = (-1)) → ((x4 < x2 → Wf K (d + 1) mX11_piles 42 [none, none, none, none, none, none] [] V Q) ∧ (¬ (x4 < x2) → ((x4 < x3 → Wf K (d + 1) mX11_piles 45 [some (vR 0), none, some (vI x2), some (vI x3), some (vI x4), some (vR (49 + 2 * Int.toNat x1))] [] V Q) ∧ (¬ (x4 < x3) → Wf K (d + 1) mX11_piles 42 [none, none, none, none, none, none] [] V Q)))))))))))))))))) : Mf K (d + 1) mX11_piles [vR 0, vI x1, vI x2, vI x3, vI x4] V Q := by
  refine Mt.of2 (L := [some (vR 0), some (vI x1), some (vI x2), some (vI x3), some (vI x4), none]) pnX11 rfl rfl ?_
  refine wp_aload_n dX11_piles_0 rfl rfl ?_
  refine wp_getR (b := 43) dX11_piles_1 fX11_26 rfl sh0 (by decide) rfl ?_
  refine wp_iload_n dX11_piles_4 rfl rfl ?_
  refine wp_inlV (d' := d) (S := []) (as := [vI x1]) dX11_piles_5 lX11_150 (by omega) sh43 rfl rfl (Nat.le_of_ble_eq_true rfl) ⟨Nat.le_refl _, Nat.le_refl _⟩ (Mt.of2 (L := [some (vR 43), some (vI x1)]) pnX7 rfl rfl ?_)
  refine wp_iload_n dX7_rowAt_0 rfl rfl ?_
  refine wp_if_lt (tgt := 21) dX7_rowAt_1 rfl (fun c1 => ?_) (fun c1 => ?_)
  ·
    refine wp_null dX7_rowAt_21 ?_
    refine wp_areturn dX7_rowAt_22 rfl ⟨rfl, rfl⟩ ?_
    show Wp _ _ _ _ _ 8 _ [vN] _ _ _ _ _
    refine wp_astoreN dX11_piles_8 (by decide) rfl ?_
    refine wp_aload_n dX11_piles_10 rfl rfl ?_
    refine wp_aloadN dX11_piles_11 rfl ?_
    refine wp_iload_n dX11_piles_13 rfl rfl ?_
    refine wp_iload_n dX11_piles_14 rfl rfl ?_
    refine wp_inlV (d' := d) (S := []) (as := [vN, vI x2, vI x3]) dX11_piles_15 lX11_263 (by omega) sh0 rfl rfl (Nat.le_of_ble_eq_true rfl) ⟨Nat.le_refl _, Nat.le_refl _⟩ (Mt.of2 (L := [some (vR 0), some vN, some (vI x2), some (vI x3)]) pnX11 rfl rfl ?_)
    refine wp_aload_nN dX11_isWindow_0 rfl rfl ?_
    refine wp_ifnullN (tgt := 25) dX11_isWindow_1 rfl ?_
    refine wp_iconst dX11_isWindow_25 (by decide) ?_
    refine wp_zreturn dX11_isWindow_26 rfl ⟨rfl, rfl⟩ (by decide) ?_
    show Wp _ _ _ _ _ 18 _ [vI 0] _ _ _ _ _
    refine wp_if_ne (tgt := 24) dX11_piles_18 rfl (fun c2 => False.elim (by revert c2; decide)) (fun c2 => ?_)
    refine wp_bipush dX11_piles_21 (by decide) ?_
    exact wp_ireturn dX11_piles_23 rfl ⟨rfl, rfl⟩ ⟨rfl, (h.1 c1)⟩
  ·
    refine wp_iload_n dX7_rowAt_4 rfl rfl ?_
    refine wp_aload_n dX7_rowAt_5 rfl rfl ?_
    refine wp_getI dX7_rowAt_6 fX7_36 rfl sh43 (by decide) ?_
    refine wp_icmp_ge (tgt := 21) dX7_rowAt_9 rfl (fun c3 => ?_) (fun c3 => ?_)
    ·
      refine wp_null dX7_rowAt_21 ?_
      refine wp_areturn dX7_rowAt_22 rfl ⟨rfl, rfl⟩ ?_
      show Wp _ _ _ _ _ 8 _ [vN] _ _ _ _ _
      refine wp_astoreN dX11_piles_8 (by decide) rfl ?_
      refine wp_aload_n dX11_piles_10 rfl rfl ?_
      refine wp_aloadN dX11_piles_11 rfl ?_
      refine wp_iload_n dX11_piles_13 rfl rfl ?_
      refine wp_iload_n dX11_piles_14 rfl rfl ?_
      refine wp_inlV (d' := d) (S := []) (as := [vN, vI x2, vI x3]) dX11_piles_15 lX11_263 (by omega) sh0 rfl rfl (Nat.le_of_ble_eq_true rfl) ⟨Nat.le_refl _, Nat.le_refl _⟩ (Mt.of2 (L := [some (vR 0), some vN, some (vI x2), some (vI x3)]) pnX11 rfl rfl ?_)
      refine wp_aload_nN dX11_isWindow_0 rfl rfl ?_
      refine wp_ifnullN (tgt := 25) dX11_isWindow_1 rfl ?_
      refine wp_iconst dX11_isWindow_25 (by decide) ?_
      refine wp_zreturn dX11_isWindow_26 rfl ⟨rfl, rfl⟩ (by decide) ?_
      show Wp _ _ _ _ _ 18 _ [vI 0] _ _ _ _ _
      refine wp_if_ne (tgt := 24) dX11_piles_18 rfl (fun c4 => False.elim (by revert c4; decide)) (fun c4 => ?_)
      refine wp_bipush dX11_piles_21 (by decide) ?_
      exact wp_ireturn dX11_piles_23 rfl ⟨rfl, rfl⟩ ⟨rfl, ((h.2 c1).1 c3)⟩
    ·
      refine wp_aload_n dX7_rowAt_12 rfl rfl ?_
      refine wp_getR (b := 44) dX7_rowAt_13 fX7_11 rfl sh43 (by decide) rfl ?_
      refine wp_iload_n dX7_rowAt_16 rfl rfl ?_
      have g5 : (0 : Int) ≤ x1 ∧ x1 < (4 : Nat) := ((h.2 c1).2 c3).1
      refine wp_aald (b := (49 + 2 * Int.toNat x1)) dX7_rowAt_17 sh44 (by decide) g5 (ap_get (b := 49) (s := 2) (n := 4) g5) ?_
      refine wp_goto (tgt := 22) dX7_rowAt_18 rfl ?_
      refine wp_areturn dX7_rowAt_22 rfl ⟨rfl, rfl⟩ ?_
      show Wp _ _ _ _ _ 8 _ [vR (49 + 2 * Int.toNat x1)] _ _ _ _ _
      refine wp_astore dX11_piles_8 (by decide) rfl ?_
      refine wp_aload_n dX11_piles_10 rfl rfl ?_
      refine wp_aload dX11_piles_11 rfl ?_
      refine wp_iload_n dX11_piles_13 rfl rfl ?_
      refine wp_iload_n dX11_piles_14 rfl rfl ?_
      refine wp_inlV (d' := d) (S := []) (as := [vR (49 + 2 * Int.toNat x1), vI x2, vI x3]) dX11_piles_15 lX11_263 (by omega) sh0 rfl rfl (Nat.le_of_ble_eq_true rfl) ⟨Nat.le_refl _, Nat.le_refl _⟩ (Mt.of2 (L := [some (vR 0), some (vR (49 + 2 * Int.toNat x1)), some (vI x2), some (vI x3)]) pnX11 rfl rfl ?_)
      refine wp_aload_n dX11_isWindow_0 rfl rfl ?_
      refine wp_ifnull dX11_isWindow_1 ?_
      refine wp_iload_n dX11_isWindow_4 rfl rfl ?_
      refine wp_if_lt (tgt := 25) dX11_isWindow_5 rfl (fun c6 => ?_) (fun c6 => ?_)
      ·
        refine wp_iconst dX11_isWindow_25 (by decide) ?_
        refine wp_zreturn dX11_isWindow_26 rfl ⟨rfl, rfl⟩ (by decide) ?_
        show Wp _ _ _ _ _ 18 _ [vI 0] _ _ _ _ _
        refine wp_if_ne (tgt := 24) dX11_piles_18 rfl (fun c7 => False.elim (by revert c7; decide)) (fun c7 => ?_)
        refine wp_bipush dX11_piles_21 (by decide) ?_
        exact wp_ireturn dX11_piles_23 rfl ⟨rfl, rfl⟩ ⟨rfl, (((h.2 c1).2 c3).2.1 c6)⟩
      ·
        refine wp_iload_n dX11_isWindow_8 rfl rfl ?_
        refine wp_iload_n dX11_isWindow_9 rfl rfl ?_
        refine wp_icmp_gt (tgt := 25) dX11_isWindow_10 rfl (fun c8 => ?_) (fun c8 => ?_)
        ·
          refine wp_iconst dX11_isWindow_25 (by decide) ?_
          refine wp_zreturn dX11_isWindow_26 rfl ⟨rfl, rfl⟩ (by decide) ?_
          show Wp _ _ _ _ _ 18 _ [vI 0] _ _ _ _ _
          refine wp_if_ne (tgt := 24) dX11_piles_18 rfl (fun c9 => False.elim (by revert c9; decide)) (fun c9 => ?_)
          refine wp_bipush dX11_piles_21 (by decide) ?_
          exact wp_ireturn dX11_piles_23 rfl ⟨rfl, rfl⟩ ⟨rfl, ((((h.2 c1).2 c3).2.2 c6).1 c8)⟩
        ·
          refine wp_iload_n dX11_isWindow_13 rfl rfl ?_
          refine wp_aload_n dX11_isWindow_14 rfl rfl ?_
          refine wp_getI dX11_isWindow_15 fX11_157 rfl (obj44 g5).1 (by decide) ?_
          refine wp_icmp_gt (tgt := 25) dX11_isWindow_18 rfl (fun c10 => ?_) (fun c10 => ?_)
          ·
            refine wp_iconst dX11_isWindow_25 (by decide) ?_
            refine wp_zreturn dX11_isWindow_26 rfl ⟨rfl, rfl⟩ (by decide) ?_
            show Wp _ _ _ _ _ 18 _ [vI 0] _ _ _ _ _
            refine wp_if_ne (tgt := 24) dX11_piles_18 rfl (fun c11 => False.elim (by revert c11; decide)) (fun c11 => ?_)
            refine wp_bipush dX11_piles_21 (by decide) ?_
            exact wp_ireturn dX11_piles_23 rfl ⟨rfl, rfl⟩ ⟨rfl, (((((h.2 c1).2 c3).2.2 c6).2 c8).1 c10)⟩
          ·
            refine wp_iconst dX11_isWindow_21 (by decide) ?_
            refine wp_goto (tgt := 26) dX11_isWindow_22 rfl ?_
            refine wp_zreturn dX11_isWindow_26 rfl ⟨rfl, rfl⟩ (by decide) ?_
            show Wp _ _ _ _ _ 18 _ [vI 1] _ _ _ _ _
            refine wp_if_ne (tgt := 24) dX11_piles_18 rfl (fun c12 => ?_) (fun c12 => False.elim (by revert c12; decide))
            refine wp_iload dX11_piles_24 rfl ?_
            refine wp_iconst dX11_piles_26 (by decide) ?_
            refine wp_icmp_eq (tgt := 45) dX11_piles_27 rfl (fun c13 => ?_) (fun c13 => ?_)
            ·
              exact wp_loc (L2 := [some (vR 0), none, some (vI x2), some (vI x3), some (vI x4), some (vR (49 + 2 * Int.toNat x1))]) ⟨rfl, ⟨rfl, ⟨rfl, ⟨rfl, ⟨rfl, trivial⟩⟩⟩⟩⟩ ((((((h.2 c1).2 c3).2.2 c6).2 c8).2 c10).1 c13)
            ·
              refine wp_iload dX11_piles_30 rfl ?_
              refine wp_iload_n dX11_piles_32 rfl rfl ?_
              refine wp_icmp_lt (tgt := 42) dX11_piles_33 rfl (fun c14 => ?_) (fun c14 => ?_)
              ·
                exact wp_loc (L2 := [none, none, none, none, none, none]) trivial (((((((h.2 c1).2 c3).2.2 c6).2 c8).2 c10).2 c13).1 c14)
              ·
                refine wp_iload dX11_piles_36 rfl ?_
                refine wp_iload_n dX11_piles_38 rfl rfl ?_
                refine wp_icmp_lt (tgt := 45) dX11_piles_39 rfl (fun c15 => ?_) (fun c15 => ?_)
                ·
                  exact wp_loc (L2 := [some (vR 0), none, some (vI x2), some (vI x3), some (vI x4), some (vR (49 + 2 * Int.toNat x1))]) ⟨rfl, ⟨rfl, ⟨rfl, ⟨rfl, ⟨rfl, trivial⟩⟩⟩⟩⟩ ((((((((h.2 c1).2 c3).2.2 c6).2 c8).2 c10).2 c13).2 c14).1 c15)
                ·
                  exact wp_loc (L2 := [none, none, none, none, none, none]) trivial ((((((((h.2 c1).2 c3).2.2 c6).2 c8).2 c10).2 c13).2 c14).2 c15)
set_option maxHeartbeats 4000000 in
set_option maxRecDepth 10000 in
theorem sX11_piles_45 {K : KK} {d : Nat} {V : Mem} {Q : Option AV → Mem → Prop} (x2 : Int) (x3 : Int) (x4 : Int) (a5 : Nat) (h5 : IsRow a5) (h : Mf K d mX1_load [vR 146, vR a5, vR 135] V (fun r V1 => r = none ∧ Mf K d mX8_pile [vR 180, vR 146, vI x2, vI x3, vI x4] V1 (fun r V2 => ∃ z2, r = some (vI z2) ∧ Q (some (vI z2)) V2))) : Wf K (d + 1) mX11_piles 45 [some (vR 0), none, some (vI x2), some (vI x3), some (vI x4), some (vR a5)] [] V Q := by
  refine wp_aload_n dX11_piles_45 rfl rfl ?_
  refine wp_getR (b := 146) dX11_piles_46 fX11_66 rfl sh0 (by decide) rfl ?_
  refine wp_aload dX11_piles_49 rfl ?_
  refine wp_aload_n dX11_piles_51 rfl rfl ?_
  refine wp_getR (b := 135) dX11_piles_52 fX11_47 rfl sh0 (by decide) rfl ?_
  refine wp_callV (S := []) (as := [vR a5, vR 135]) dX11_piles_55 lX11_267 (h) (by omega) sh146 rfl rfl (Nat.le_of_ble_eq_true rfl) ⟨Nat.le_refl _, Nat.le_refl _⟩ ?_
  rintro _ _ V1 ⟨rfl, rfl, q1⟩
  show Wp _ _ _ _ _ 58 _ [] _ _ _ _ _
  refine wp_aload_n dX11_piles_58 rfl rfl ?_
  refine wp_getR (b := 180) dX11_piles_59 fX11_83 rfl sh0 (by decide) rfl ?_
  refine wp_aload_n dX11_piles_62 rfl rfl ?_
  refine wp_getR (b := 146) dX11_piles_63 fX11_66 rfl sh0 (by decide) rfl ?_
  refine wp_iload_n dX11_piles_66 rfl rfl ?_
  refine wp_iload_n dX11_piles_67 rfl rfl ?_
  refine wp_iload dX11_piles_68 rfl ?_
  refine wp_callV (S := []) (as := [vR 146, vI x2, vI x3, vI x4]) dX11_piles_70 lX11_271 (q1) (by omega) sh180 rfl rfl (Nat.le_of_ble_eq_true rfl) ⟨Nat.le_refl _, Nat.le_refl _⟩ ?_
  rintro _ _ V2 ⟨rfl, z2, rfl, q2⟩
  show Wp _ _ _ _ _ 73 _ [vI z2] _ _ _ _ _
  exact wp_ireturn dX11_piles_73 rfl ⟨rfl, rfl⟩ ⟨rfl, q2⟩
set_option maxHeartbeats 4000000 in
set_option maxRecDepth 10000 in
theorem sX11_piles_42 {K : KK} {d : Nat} {V : Mem} {Q : Option AV → Mem → Prop}  (h : Q (some (vI (-2))) V) : Wf K (d + 1) mX11_piles 42 [none, none, none, none, none, none] [] V Q := by
  refine wp_bipush dX11_piles_42 (by decide) ?_
  exact wp_ireturn dX11_piles_44 rfl ⟨rfl, rfl⟩ ⟨rfl, h⟩
set_option maxHeartbeats 4000000 in
set_option maxRecDepth 10000 in
theorem sX11_shape {K : KK} {d : Nat} {V : Mem} {Q : Option AV → Mem → Prop} (x1 : Int) (x2 : Int) (x3 : Int) (x4 : Int) (h : ((x1 < 0 → Q (some (vI (-1))) V) ∧ (¬ (x1 < 0) → (((V 43 5) ≤ x1 → Q (some (vI (-1))) V) ∧ (¬ ((V 43 5) ≤ x1) → (((0 : Int) ≤ x1 ∧ x1 < (4 : Nat)) ∧ ((x2 < 0 → Q (some (vI (-1))) V) ∧ (¬ (x2 < 0) → ((x3 < x2 → Q (some (vI (-1))) V) ∧ (¬ (x3 < x2) → (((V (49 + 2 * Int.toNat x1) 3) < x3 → Q (some (vI (-1))) V) ∧ (¬ ((V (49 + 2 * Int.toNat x1) 3) < x3) → ((x4 < 0 → Q (some (vI (-1))) V) ∧ (¬ (x4 < 0) → ((x4 ≤ 20 → Mf K d mX1_load [vR 146, vR (49 + 2 * Int.toNat x1), vR 135] V (fun r V15 => r = none ∧ Mf K d mX8_fill [vR 180, vR 146, vI x2, vI x3] V15 (fun r V16 => r = none ∧ Mf K d mX8_sizeOf [vR 180, vI x4] V16 (fun r V17 => ∃ z17, r = some (vI z17) ∧ Q (some (vI z17)) V17)))) ∧ (¬ (x4 ≤ 20) → Q (some (vI (-1))) V)))))))))))))))) : Mf K (d + 1) mX11_shape [vR 0, vI x1, vI x2, vI x3, vI x4] V Q := by
  refine Mt.of2 (L := [some (vR 0), some (vI x1), some (vI x2), some (vI x3), some (vI x4), none]) pnX11 rfl rfl ?_
  refine wp_aload_n dX11_shape_0 rfl rfl ?_
  refine wp_getR (b := 43) dX11_shape_1 fX11_26 rfl sh0 (by decide) rfl ?_
  refine wp_iload_n dX11_shape_4 rfl rfl ?_
  refine wp_inlV (d' := d) (S := []) (as := [vI x1]) dX11_shape_5 lX11_150 (by omega) sh43 rfl rfl (Nat.le_of_ble_eq_true rfl) ⟨Nat.le_refl _, Nat.le_refl _⟩ (Mt.of2 (L := [some (vR 43), some (vI x1)]) pnX7 rfl rfl ?_)
  refine wp_iload_n dX7_rowAt_0 rfl rfl ?_
  refine wp_if_lt (tgt := 21) dX7_rowAt_1 rfl (fun c1 => ?_) (fun c1 => ?_)
  ·
    refine wp_null dX7_rowAt_21 ?_
    refine wp_areturn dX7_rowAt_22 rfl ⟨rfl, rfl⟩ ?_
    show Wp _ _ _ _ _ 8 _ [vN] _ _ _ _ _
    refine wp_astoreN dX11_shape_8 (by decide) rfl ?_
    refine wp_aload_n dX11_shape_10 rfl rfl ?_
    refine wp_aloadN dX11_shape_11 rfl ?_
    refine wp_iload_n dX11_shape_13 rfl rfl ?_
    refine wp_iload_n dX11_shape_14 rfl rfl ?_
    refine wp_inlV (d' := d) (S := []) (as := [vN, vI x2, vI x3]) dX11_shape_15 lX11_263 (by omega) sh0 rfl rfl (Nat.le_of_ble_eq_true rfl) ⟨Nat.le_refl _, Nat.le_refl _⟩ (Mt.of2 (L := [some (vR 0), some vN, some (vI x2), some (vI x3)]) pnX11 rfl rfl ?_)
    refine wp_aload_nN dX11_isWindow_0 rfl rfl ?_
    refine wp_ifnullN (tgt := 25) dX11_isWindow_1 rfl ?_
    refine wp_iconst dX11_isWindow_25 (by decide) ?_
    refine wp_zreturn dX11_isWindow_26 rfl ⟨rfl, rfl⟩ (by decide) ?_
    show Wp _ _ _ _ _ 18 _ [vI 0] _ _ _ _ _
    refine wp_if_eq (tgt := 33) dX11_shape_18 rfl (fun c2 => ?_) (fun c2 => False.elim (by revert c2; decide))
    refine wp_iconst dX11_shape_33 (by decide) ?_
    exact wp_ireturn dX11_shape_34 rfl ⟨rfl, rfl⟩ ⟨rfl, (h.1 c1)⟩
  ·
    refine wp_iload_n dX7_rowAt_4 rfl rfl ?_
    refine wp_aload_n dX7_rowAt_5 rfl rfl ?_
    refine wp_getI dX7_rowAt_6 fX7_36 rfl sh43 (by decide) ?_
    refine wp_icmp_ge (tgt := 21) dX7_rowAt_9 rfl (fun c3 => ?_) (fun c3 => ?_)
    ·
      refine wp_null dX7_rowAt_21 ?_
      refine wp_areturn dX7_rowAt_22 rfl ⟨rfl, rfl⟩ ?_
      show Wp _ _ _ _ _ 8 _ [vN] _ _ _ _ _
      refine wp_astoreN dX11_shape_8 (by decide) rfl ?_
      refine wp_aload_n dX11_shape_10 rfl rfl ?_
      refine wp_aloadN dX11_shape_11 rfl ?_
      refine wp_iload_n dX11_shape_13 rfl rfl ?_
      refine wp_iload_n dX11_shape_14 rfl rfl ?_
      refine wp_inlV (d' := d) (S := []) (as := [vN, vI x2, vI x3]) dX11_shape_15 lX11_263 (by omega) sh0 rfl rfl (Nat.le_of_ble_eq_true rfl) ⟨Nat.le_refl _, Nat.le_refl _⟩ (Mt.of2 (L := [some (vR 0), some vN, some (vI x2), some (vI x3)]) pnX11 rfl rfl ?_)
      refine wp_aload_nN dX11_isWindow_0 rfl rfl ?_
      refine wp_ifnullN (tgt := 25) dX11_isWindow_1 rfl ?_
      refine wp_iconst dX11_isWindow_25 (by decide) ?_
      refine wp_zreturn dX11_isWindow_26 rfl ⟨rfl, rfl⟩ (by decide) ?_
      show Wp _ _ _ _ _ 18 _ [vI 0] _ _ _ _ _
      refine wp_if_eq (tgt := 33) dX11_shape_18 rfl (fun c4 => ?_) (fun c4 => False.elim (by revert c4; decide))
      refine wp_iconst dX11_shape_33 (by decide) ?_
      exact wp_ireturn dX11_shape_34 rfl ⟨rfl, rfl⟩ ⟨rfl, ((h.2 c1).1 c3)⟩
    ·
      refine wp_aload_n dX7_rowAt_12 rfl rfl ?_
      refine wp_getR (b := 44) dX7_rowAt_13 fX7_11 rfl sh43 (by decide) rfl ?_
      refine wp_iload_n dX7_rowAt_16 rfl rfl ?_
      have g5 : (0 : Int) ≤ x1 ∧ x1 < (4 : Nat) := ((h.2 c1).2 c3).1
      refine wp_aald (b := (49 + 2 * Int.toNat x1)) dX7_rowAt_17 sh44 (by decide) g5 (ap_get (b := 49) (s := 2) (n := 4) g5) ?_
      refine wp_goto (tgt := 22) dX7_rowAt_18 rfl ?_
      refine wp_areturn dX7_rowAt_22 rfl ⟨rfl, rfl⟩ ?_
      show Wp _ _ _ _ _ 8 _ [vR (49 + 2 * Int.toNat x1)] _ _ _ _ _
      refine wp_astore dX11_shape_8 (by decide) rfl ?_
      refine wp_aload_n dX11_shape_10 rfl rfl ?_
      refine wp_aload dX11_shape_11 rfl ?_
      refine wp_iload_n dX11_shape_13 rfl rfl ?_
      refine wp_iload_n dX11_shape_14 rfl rfl ?_
      refine wp_inlV (d' := d) (S := []) (as := [vR (49 + 2 * Int.toNat x1), vI x2, vI x3]) dX11_shape_15 lX11_263 (by omega) sh0 rfl rfl (Nat.le_of_ble_eq_true rfl) ⟨Nat.le_refl _, Nat.le_refl _⟩ (Mt.of2 (L := [some (vR 0), some (vR (49 + 2 * Int.toNat x1)), some (vI x2), some (vI x3)]) pnX11 rfl rfl ?_)
      refine wp_aload_n dX11_isWindow_0 rfl rfl ?_
      refine wp_ifnull dX11_isWindow_1 ?_
      refine wp_iload_n dX11_isWindow_4 rfl rfl ?_
      refine wp_if_lt (tgt := 25) dX11_isWindow_5 rfl (fun c6 => ?_) (fun c6 => ?_)
      ·
        refine wp_iconst dX11_isWindow_25 (by decide) ?_
        refine wp_zreturn dX11_isWindow_26 rfl ⟨rfl, rfl⟩ (by decide) ?_
        show Wp _ _ _ _ _ 18 _ [vI 0] _ _ _ _ _
        refine wp_if_eq (tgt := 33) dX11_shape_18 rfl (fun c7 => ?_) (fun c7 => False.elim (by revert c7; decide))
        refine wp_iconst dX11_shape_33 (by decide) ?_
        exact wp_ireturn dX11_shape_34 rfl ⟨rfl, rfl⟩ ⟨rfl, (((h.2 c1).2 c3).2.1 c6)⟩
      ·
        refine wp_iload_n dX11_isWindow_8 rfl rfl ?_
        refine wp_iload_n dX11_isWindow_9 rfl rfl ?_
        refine wp_icmp_gt (tgt := 25) dX11_isWindow_10 rfl (fun c8 => ?_) (fun c8 => ?_)
        ·
          refine wp_iconst dX11_isWindow_25 (by decide) ?_
          refine wp_zreturn dX11_isWindow_26 rfl ⟨rfl, rfl⟩ (by decide) ?_
          show Wp _ _ _ _ _ 18 _ [vI 0] _ _ _ _ _
          refine wp_if_eq (tgt := 33) dX11_shape_18 rfl (fun c9 => ?_) (fun c9 => False.elim (by revert c9; decide))
          refine wp_iconst dX11_shape_33 (by decide) ?_
          exact wp_ireturn dX11_shape_34 rfl ⟨rfl, rfl⟩ ⟨rfl, ((((h.2 c1).2 c3).2.2 c6).1 c8)⟩
        ·
          refine wp_iload_n dX11_isWindow_13 rfl rfl ?_
          refine wp_aload_n dX11_isWindow_14 rfl rfl ?_
          refine wp_getI dX11_isWindow_15 fX11_157 rfl (obj44 g5).1 (by decide) ?_
          refine wp_icmp_gt (tgt := 25) dX11_isWindow_18 rfl (fun c10 => ?_) (fun c10 => ?_)
          ·
            refine wp_iconst dX11_isWindow_25 (by decide) ?_
            refine wp_zreturn dX11_isWindow_26 rfl ⟨rfl, rfl⟩ (by decide) ?_
            show Wp _ _ _ _ _ 18 _ [vI 0] _ _ _ _ _
            refine wp_if_eq (tgt := 33) dX11_shape_18 rfl (fun c11 => ?_) (fun c11 => False.elim (by revert c11; decide))
            refine wp_iconst dX11_shape_33 (by decide) ?_
            exact wp_ireturn dX11_shape_34 rfl ⟨rfl, rfl⟩ ⟨rfl, (((((h.2 c1).2 c3).2.2 c6).2 c8).1 c10)⟩
          ·
            refine wp_iconst dX11_isWindow_21 (by decide) ?_
            refine wp_goto (tgt := 26) dX11_isWindow_22 rfl ?_
            refine wp_zreturn dX11_isWindow_26 rfl ⟨rfl, rfl⟩ (by decide) ?_
            show Wp _ _ _ _ _ 18 _ [vI 1] _ _ _ _ _
            refine wp_if_eq (tgt := 33) dX11_shape_18 rfl (fun c12 => False.elim (by revert c12; decide)) (fun c12 => ?_)
            refine wp_iload dX11_shape_21 rfl ?_
            refine wp_if_lt (tgt := 33) dX11_shape_23 rfl (fun c13 => ?_) (fun c13 => ?_)
            ·
              refine wp_iconst dX11_shape_33 (by decide) ?_
              exact wp_ireturn dX11_shape_34 rfl ⟨rfl, rfl⟩ ⟨rfl, ((((((h.2 c1).2 c3).2.2 c6).2 c8).2 c10).1 c13)⟩
            ·
              refine wp_iload dX11_shape_26 rfl ?_
              refine wp_bipush dX11_shape_28 (by decide) ?_
              refine wp_icmp_le (tgt := 35) dX11_shape_30 rfl (fun c14 => ?_) (fun c14 => ?_)
              ·
                refine wp_aload_n dX11_shape_35 rfl rfl ?_
                refine wp_getR (b := 146) dX11_shape_36 fX11_66 rfl sh0 (by decide) rfl ?_
                refine wp_aload dX11_shape_39 rfl ?_
                refine wp_aload_n dX11_shape_41 rfl rfl ?_
                refine wp_getR (b := 135) dX11_shape_42 fX11_47 rfl sh0 (by decide) rfl ?_
                refine wp_callV (S := []) (as := [vR (49 + 2 * Int.toNat x1), vR 135]) dX11_shape_45 lX11_267 ((((((((h.2 c1).2 c3).2.2 c6).2 c8).2 c10).2 c13).1 c14)) (by omega) sh146 rfl rfl (Nat.le_of_ble_eq_true rfl) ⟨Nat.le_refl _, Nat.le_refl _⟩ ?_
                rintro _ _ V15 ⟨rfl, rfl, q15⟩
                show Wp _ _ _ _ _ 48 _ [] _ _ _ _ _
                refine wp_aload_n dX11_shape_48 rfl rfl ?_
                refine wp_getR (b := 180) dX11_shape_49 fX11_83 rfl sh0 (by decide) rfl ?_
                refine wp_aload_n dX11_shape_52 rfl rfl ?_
                refine wp_getR (b := 146) dX11_shape_53 fX11_66 rfl sh0 (by decide) rfl ?_
                refine wp_iload_n dX11_shape_56 rfl rfl ?_
                refine wp_iload_n dX11_shape_57 rfl rfl ?_
                refine wp_callV (S := []) (as := [vR 146, vI x2, vI x3]) dX11_shape_58 lX11_275 (q15) (by omega) sh180 rfl rfl (Nat.le_of_ble_eq_true rfl) ⟨Nat.le_refl _, Nat.le_refl _⟩ ?_
                rintro _ _ V16 ⟨rfl, rfl, q16⟩
                show Wp _ _ _ _ _ 61 _ [] _ _ _ _ _
                refine wp_aload_n dX11_shape_61 rfl rfl ?_
                refine wp_getR (b := 180) dX11_shape_62 fX11_83 rfl sh0 (by decide) rfl ?_
                refine wp_iload dX11_shape_65 rfl ?_
                refine wp_callV (S := []) (as := [vI x4]) dX11_shape_67 lX11_279 (q16) (by omega) sh180 rfl rfl (Nat.le_of_ble_eq_true rfl) ⟨Nat.le_refl _, Nat.le_refl _⟩ ?_
                rintro _ _ V17 ⟨rfl, z17, rfl, q17⟩
                show Wp _ _ _ _ _ 70 _ [vI z17] _ _ _ _ _
                exact wp_ireturn dX11_shape_70 rfl ⟨rfl, rfl⟩ ⟨rfl, q17⟩
              ·
                refine wp_iconst dX11_shape_33 (by decide) ?_
                exact wp_ireturn dX11_shape_34 rfl ⟨rfl, rfl⟩ ⟨rfl, (((((((h.2 c1).2 c3).2.2 c6).2 c8).2 c10).2 c13).2 c14)⟩
set_option maxHeartbeats 4000000 in
set_option maxRecDepth 10000 in
theorem sX11_isWindow {K : KK} {d : Nat} {V : Mem} {Q : Option AV → Mem → Prop} (a1 : Nat) (x2 : Int) (x3 : Int) (h1 : IsRow a1) (h : ((x2 < 0 → Q (some (vI 0)) V) ∧ (¬ (x2 < 0) → ((x3 < x2 → Q (some (vI 0)) V) ∧ (¬ (x3 < x2) → (((V a1 3) < x3 → Q (some (vI 0)) V) ∧ (¬ ((V a1 3) < x3) → Q (some (vI 1)) V))))))) : Mf K d mX11_isWindow [vR 0, vR a1, vI x2, vI x3] V Q := by
  refine Mt.of2 (L := [some (vR 0), some (vR a1), some (vI x2), some (vI x3)]) pnX11 rfl rfl ?_
  refine wp_aload_n dX11_isWindow_0 rfl rfl ?_
  refine wp_ifnull dX11_isWindow_1 ?_
  refine wp_iload_n dX11_isWindow_4 rfl rfl ?_
  refine wp_if_lt (tgt := 25) dX11_isWindow_5 rfl (fun c1 => ?_) (fun c1 => ?_)
  ·
    refine wp_iconst dX11_isWindow_25 (by decide) ?_
    exact wp_zreturn dX11_isWindow_26 rfl ⟨rfl, rfl⟩ (by decide) ⟨rfl, (h.1 c1)⟩
  ·
    refine wp_iload_n dX11_isWindow_8 rfl rfl ?_
    refine wp_iload_n dX11_isWindow_9 rfl rfl ?_
    refine wp_icmp_gt (tgt := 25) dX11_isWindow_10 rfl (fun c2 => ?_) (fun c2 => ?_)
    ·
      refine wp_iconst dX11_isWindow_25 (by decide) ?_
      exact wp_zreturn dX11_isWindow_26 rfl ⟨rfl, rfl⟩ (by decide) ⟨rfl, ((h.2 c1).1 c2)⟩
    ·
      refine wp_iload_n dX11_isWindow_13 rfl rfl ?_
      refine wp_aload_n dX11_isWindow_14 rfl rfl ?_
      refine wp_getI dX11_isWindow_15 fX11_157 rfl h1.1 (by decide) ?_
      refine wp_icmp_gt (tgt := 25) dX11_isWindow_18 rfl (fun c3 => ?_) (fun c3 => ?_)
      ·
        refine wp_iconst dX11_isWindow_25 (by decide) ?_
        exact wp_zreturn dX11_isWindow_26 rfl ⟨rfl, rfl⟩ (by decide) ⟨rfl, (((h.2 c1).2 c2).1 c3)⟩
      ·
        refine wp_iconst dX11_isWindow_21 (by decide) ?_
        refine wp_goto (tgt := 26) dX11_isWindow_22 rfl ?_
        exact wp_zreturn dX11_isWindow_26 rfl ⟨rfl, rfl⟩ (by decide) ⟨rfl, (((h.2 c1).2 c2).2 c3)⟩
set_option maxHeartbeats 4000000 in
set_option maxRecDepth 10000 in
theorem sX11_loadWindow {K : KK} {d : Nat} {V : Mem} {Q : Option AV → Mem → Prop} (x1 : Int) (x2 : Int) (x3 : Int) (h : ((x1 < 0 → Q (some (vI 0)) V) ∧ (¬ (x1 < 0) → (((V 43 5) ≤ x1 → Q (some (vI 0)) V) ∧ (¬ ((V 43 5) ≤ x1) → (((0 : Int) ≤ x1 ∧ x1 < (4 : Nat)) ∧ ((x2 < 0 → Q (some (vI 0)) V) ∧ (¬ (x2 < 0) → ((x3 < x2 → Q (some (vI 0)) V) ∧ (¬ (x3 < x2) → (((V (49 + 2 * Int.toNat x1) 3) < x3 → Q (some (vI 0)) V) ∧ (¬ ((V (49 + 2 * Int.toNat x1) 3) < x3) → Mf K d mX1_load [vR 146, vR (49 + 2 * Int.toNat x1), vR 135] V (fun r V13 => r = none ∧ Mf K d mX1_measure [vR 146, vI x2, vI x3] V13 (fun r V14 => r = none ∧ Q (some (vI 1)) V14)))))))))))))) : Mf K (d + 1) mX11_loadWindow [vR 0, vI x1, vI x2, vI x3] V Q := by
  refine Mt.of2 (L := [some (vR 0), some (vI x1), some (vI x2), some (vI x3), none]) pnX11 rfl rfl ?_
  refine wp_aload_n dX11_loadWindow_0 rfl rfl ?_
  refine wp_getR (b := 43) dX11_loadWindow_1 fX11_26 rfl sh0 (by decide) rfl ?_
  refine wp_iload_n dX11_loadWindow_4 rfl rfl ?_
  refine wp_inlV (d' := d) (S := []) (as := [vI x1]) dX11_loadWindow_5 lX11_150 (by omega) sh43 rfl rfl (Nat.le_of_ble_eq_true rfl) ⟨Nat.le_refl _, Nat.le_refl _⟩ (Mt.of2 (L := [some (vR 43), some (vI x1)]) pnX7 rfl rfl ?_)
  refine wp_iload_n dX7_rowAt_0 rfl rfl ?_
  refine wp_if_lt (tgt := 21) dX7_rowAt_1 rfl (fun c1 => ?_) (fun c1 => ?_)
  ·
    refine wp_null dX7_rowAt_21 ?_
    refine wp_areturn dX7_rowAt_22 rfl ⟨rfl, rfl⟩ ?_
    show Wp _ _ _ _ _ 8 _ [vN] _ _ _ _ _
    refine wp_astoreN dX11_loadWindow_8 (by decide) rfl ?_
    refine wp_aload_n dX11_loadWindow_10 rfl rfl ?_
    refine wp_aloadN dX11_loadWindow_11 rfl ?_
    refine wp_iload_n dX11_loadWindow_13 rfl rfl ?_
    refine wp_iload_n dX11_loadWindow_14 rfl rfl ?_
    refine wp_inlV (d' := d) (S := []) (as := [vN, vI x2, vI x3]) dX11_loadWindow_15 lX11_263 (by omega) sh0 rfl rfl (Nat.le_of_ble_eq_true rfl) ⟨Nat.le_refl _, Nat.le_refl _⟩ (Mt.of2 (L := [some (vR 0), some vN, some (vI x2), some (vI x3)]) pnX11 rfl rfl ?_)
    refine wp_aload_nN dX11_isWindow_0 rfl rfl ?_
    refine wp_ifnullN (tgt := 25) dX11_isWindow_1 rfl ?_
    refine wp_iconst dX11_isWindow_25 (by decide) ?_
    refine wp_zreturn dX11_isWindow_26 rfl ⟨rfl, rfl⟩ (by decide) ?_
    show Wp _ _ _ _ _ 18 _ [vI 0] _ _ _ _ _
    refine wp_if_ne (tgt := 23) dX11_loadWindow_18 rfl (fun c2 => False.elim (by revert c2; decide)) (fun c2 => ?_)
    refine wp_iconst dX11_loadWindow_21 (by decide) ?_
    exact wp_zreturn dX11_loadWindow_22 rfl ⟨rfl, rfl⟩ (by decide) ⟨rfl, (h.1 c1)⟩
  ·
    refine wp_iload_n dX7_rowAt_4 rfl rfl ?_
    refine wp_aload_n dX7_rowAt_5 rfl rfl ?_
    refine wp_getI dX7_rowAt_6 fX7_36 rfl sh43 (by decide) ?_
    refine wp_icmp_ge (tgt := 21) dX7_rowAt_9 rfl (fun c3 => ?_) (fun c3 => ?_)
    ·
      refine wp_null dX7_rowAt_21 ?_
      refine wp_areturn dX7_rowAt_22 rfl ⟨rfl, rfl⟩ ?_
      show Wp _ _ _ _ _ 8 _ [vN] _ _ _ _ _
      refine wp_astoreN dX11_loadWindow_8 (by decide) rfl ?_
      refine wp_aload_n dX11_loadWindow_10 rfl rfl ?_
      refine wp_aloadN dX11_loadWindow_11 rfl ?_
      refine wp_iload_n dX11_loadWindow_13 rfl rfl ?_
      refine wp_iload_n dX11_loadWindow_14 rfl rfl ?_
      refine wp_inlV (d' := d) (S := []) (as := [vN, vI x2, vI x3]) dX11_loadWindow_15 lX11_263 (by omega) sh0 rfl rfl (Nat.le_of_ble_eq_true rfl) ⟨Nat.le_refl _, Nat.le_refl _⟩ (Mt.of2 (L := [some (vR 0), some vN, some (vI x2), some (vI x3)]) pnX11 rfl rfl ?_)
      refine wp_aload_nN dX11_isWindow_0 rfl rfl ?_
      refine wp_ifnullN (tgt := 25) dX11_isWindow_1 rfl ?_
      refine wp_iconst dX11_isWindow_25 (by decide) ?_
      refine wp_zreturn dX11_isWindow_26 rfl ⟨rfl, rfl⟩ (by decide) ?_
      show Wp _ _ _ _ _ 18 _ [vI 0] _ _ _ _ _
      refine wp_if_ne (tgt := 23) dX11_loadWindow_18 rfl (fun c4 => False.elim (by revert c4; decide)) (fun c4 => ?_)
      refine wp_iconst dX11_loadWindow_21 (by decide) ?_
      exact wp_zreturn dX11_loadWindow_22 rfl ⟨rfl, rfl⟩ (by decide) ⟨rfl, ((h.2 c1).1 c3)⟩
    ·
      refine wp_aload_n dX7_rowAt_12 rfl rfl ?_
      refine wp_getR (b := 44) dX7_rowAt_13 fX7_11 rfl sh43 (by decide) rfl ?_
      refine wp_iload_n dX7_rowAt_16 rfl rfl ?_
      have g5 : (0 : Int) ≤ x1 ∧ x1 < (4 : Nat) := ((h.2 c1).2 c3).1
      refine wp_aald (b := (49 + 2 * Int.toNat x1)) dX7_rowAt_17 sh44 (by decide) g5 (ap_get (b := 49) (s := 2) (n := 4) g5) ?_
      refine wp_goto (tgt := 22) dX7_rowAt_18 rfl ?_
      refine wp_areturn dX7_rowAt_22 rfl ⟨rfl, rfl⟩ ?_
      show Wp _ _ _ _ _ 8 _ [vR (49 + 2 * Int.toNat x1)] _ _ _ _ _
      refine wp_astore dX11_loadWindow_8 (by decide) rfl ?_
      refine wp_aload_n dX11_loadWindow_10 rfl rfl ?_
      refine wp_aload dX11_loadWindow_11 rfl ?_
      refine wp_iload_n dX11_loadWindow_13 rfl rfl ?_
      refine wp_iload_n dX11_loadWindow_14 rfl rfl ?_
      refine wp_inlV (d' := d) (S := []) (as := [vR (49 + 2 * Int.toNat x1), vI x2, vI x3]) dX11_loadWindow_15 lX11_263 (by omega) sh0 rfl rfl (Nat.le_of_ble_eq_true rfl) ⟨Nat.le_refl _, Nat.le_refl _⟩ (Mt.of2 (L := [some (vR 0), some (vR (49 + 2 * Int.toNat x1)), some (vI x2), some (vI x3)]) pnX11 rfl rfl ?_)
      refine wp_aload_n dX11_isWindow_0 rfl rfl ?_
      refine wp_ifnull dX11_isWindow_1 ?_
      refine wp_iload_n dX11_isWindow_4 rfl rfl ?_
      refine wp_if_lt (tgt := 25) dX11_isWindow_5 rfl (fun c6 => ?_) (fun c6 => ?_)
      ·
        refine wp_iconst dX11_isWindow_25 (by decide) ?_
        refine wp_zreturn dX11_isWindow_26 rfl ⟨rfl, rfl⟩ (by decide) ?_
        show Wp _ _ _ _ _ 18 _ [vI 0] _ _ _ _ _
        refine wp_if_ne (tgt := 23) dX11_loadWindow_18 rfl (fun c7 => False.elim (by revert c7; decide)) (fun c7 => ?_)
        refine wp_iconst dX11_loadWindow_21 (by decide) ?_
        exact wp_zreturn dX11_loadWindow_22 rfl ⟨rfl, rfl⟩ (by decide) ⟨rfl, (((h.2 c1).2 c3).2.1 c6)⟩
      ·
        refine wp_iload_n dX11_isWindow_8 rfl rfl ?_
        refine wp_iload_n dX11_isWindow_9 rfl rfl ?_
        refine wp_icmp_gt (tgt := 25) dX11_isWindow_10 rfl (fun c8 => ?_) (fun c8 => ?_)
        ·
          refine wp_iconst dX11_isWindow_25 (by decide) ?_
          refine wp_zreturn dX11_isWindow_26 rfl ⟨rfl, rfl⟩ (by decide) ?_
          show Wp _ _ _ _ _ 18 _ [vI 0] _ _ _ _ _
          refine wp_if_ne (tgt := 23) dX11_loadWindow_18 rfl (fun c9 => False.elim (by revert c9; decide)) (fun c9 => ?_)
          refine wp_iconst dX11_loadWindow_21 (by decide) ?_
          exact wp_zreturn dX11_loadWindow_22 rfl ⟨rfl, rfl⟩ (by decide) ⟨rfl, ((((h.2 c1).2 c3).2.2 c6).1 c8)⟩
        ·
          refine wp_iload_n dX11_isWindow_13 rfl rfl ?_
          refine wp_aload_n dX11_isWindow_14 rfl rfl ?_
          refine wp_getI dX11_isWindow_15 fX11_157 rfl (obj44 g5).1 (by decide) ?_
          refine wp_icmp_gt (tgt := 25) dX11_isWindow_18 rfl (fun c10 => ?_) (fun c10 => ?_)
          ·
            refine wp_iconst dX11_isWindow_25 (by decide) ?_
            refine wp_zreturn dX11_isWindow_26 rfl ⟨rfl, rfl⟩ (by decide) ?_
            show Wp _ _ _ _ _ 18 _ [vI 0] _ _ _ _ _
            refine wp_if_ne (tgt := 23) dX11_loadWindow_18 rfl (fun c11 => False.elim (by revert c11; decide)) (fun c11 => ?_)
            refine wp_iconst dX11_loadWindow_21 (by decide) ?_
            exact wp_zreturn dX11_loadWindow_22 rfl ⟨rfl, rfl⟩ (by decide) ⟨rfl, (((((h.2 c1).2 c3).2.2 c6).2 c8).1 c10)⟩
          ·
            refine wp_iconst dX11_isWindow_21 (by decide) ?_
            refine wp_goto (tgt := 26) dX11_isWindow_22 rfl ?_
            refine wp_zreturn dX11_isWindow_26 rfl ⟨rfl, rfl⟩ (by decide) ?_
            show Wp _ _ _ _ _ 18 _ [vI 1] _ _ _ _ _
            refine wp_if_ne (tgt := 23) dX11_loadWindow_18 rfl (fun c12 => ?_) (fun c12 => False.elim (by revert c12; decide))
            refine wp_aload_n dX11_loadWindow_23 rfl rfl ?_
            refine wp_getR (b := 146) dX11_loadWindow_24 fX11_66 rfl sh0 (by decide) rfl ?_
            refine wp_aload dX11_loadWindow_27 rfl ?_
            refine wp_aload_n dX11_loadWindow_29 rfl rfl ?_
            refine wp_getR (b := 135) dX11_loadWindow_30 fX11_47 rfl sh0 (by decide) rfl ?_
            refine wp_callV (S := []) (as := [vR (49 + 2 * Int.toNat x1), vR 135]) dX11_loadWindow_33 lX11_267 ((((((h.2 c1).2 c3).2.2 c6).2 c8).2 c10)) (by omega) sh146 rfl rfl (Nat.le_of_ble_eq_true rfl) ⟨Nat.le_refl _, Nat.le_refl _⟩ ?_
            rintro _ _ V13 ⟨rfl, rfl, q13⟩
            show Wp _ _ _ _ _ 36 _ [] _ _ _ _ _
            refine wp_aload_n dX11_loadWindow_36 rfl rfl ?_
            refine wp_getR (b := 146) dX11_loadWindow_37 fX11_66 rfl sh0 (by decide) rfl ?_
            refine wp_iload_n dX11_loadWindow_40 rfl rfl ?_
            refine wp_iload_n dX11_loadWindow_41 rfl rfl ?_
            refine wp_callV (S := []) (as := [vI x2, vI x3]) dX11_loadWindow_42 lX11_282 (q13) (by omega) sh146 rfl rfl (Nat.le_of_ble_eq_true rfl) ⟨Nat.le_refl _, Nat.le_refl _⟩ ?_
            rintro _ _ V14 ⟨rfl, rfl, q14⟩
            show Wp _ _ _ _ _ 45 _ [] _ _ _ _ _
            refine wp_iconst dX11_loadWindow_45 (by decide) ?_
            exact wp_zreturn dX11_loadWindow_46 rfl ⟨rfl, rfl⟩ (by decide) ⟨rfl, q14⟩
set_option maxHeartbeats 4000000 in
set_option maxRecDepth 10000 in
theorem sX11_strand {K : KK} {d : Nat} {V : Mem} {Q : Option AV → Mem → Prop} (x1 : Int) (x2 : Int) (h : ((x1 < 0 → Q (some (vI (-1))) V) ∧ (¬ (x1 < 0) → (((V 43 5) ≤ x1 → Q (some (vI (-1))) V) ∧ (¬ ((V 43 5) ≤ x1) → (((0 : Int) ≤ x1 ∧ x1 < (4 : Nat)) ∧ Mf K (d + 1) mX6_hasPlace [vR (49 + 2 * Int.toNat x1), vI x2] V (fun r V4 => ∃ z4, r = some (vI z4) ∧ ((¬ z4 = 0 → Mf K d mX1_load [vR 146, vR (49 + 2 * Int.toNat x1), vR 135] V4 (fun r V6 => r = none ∧ Mf K d mX10_fillChains [vR 156, vR 146] V6 (fun r V7 => r = none ∧ Mf K (d + 1) mX10_strandFrom [vR 156, vI x2] V7 (fun r V8 => ∃ z8, r = some (vI z8) ∧ Q (some (vI z8)) V8)))) ∧ (z4 = 0 → Q (some (vI (-1))) V4))))))))) : Mf K (d + 2) mX11_strand [vR 0, vI x1, vI x2] V Q := by
  refine Mt.of2 (L := [some (vR 0), some (vI x1), some (vI x2), none]) pnX11 rfl rfl ?_
  refine wp_aload_n dX11_strand_0 rfl rfl ?_
  refine wp_getR (b := 43) dX11_strand_1 fX11_26 rfl sh0 (by decide) rfl ?_
  refine wp_iload_n dX11_strand_4 rfl rfl ?_
  refine wp_inlV (d' := (d + 1)) (S := []) (as := [vI x1]) dX11_strand_5 lX11_150 (by omega) sh43 rfl rfl (Nat.le_of_ble_eq_true rfl) ⟨Nat.le_refl _, Nat.le_refl _⟩ (Mt.of2 (L := [some (vR 43), some (vI x1)]) pnX7 rfl rfl ?_)
  refine wp_iload_n dX7_rowAt_0 rfl rfl ?_
  refine wp_if_lt (tgt := 21) dX7_rowAt_1 rfl (fun c1 => ?_) (fun c1 => ?_)
  ·
    refine wp_null dX7_rowAt_21 ?_
    refine wp_areturn dX7_rowAt_22 rfl ⟨rfl, rfl⟩ ?_
    show Wp _ _ _ _ _ 8 _ [vN] _ _ _ _ _
    refine wp_astore_nN dX11_strand_8 rfl (by decide) rfl ?_
    refine wp_aload_nN dX11_strand_9 rfl rfl ?_
    refine wp_ifnullN (tgt := 21) dX11_strand_10 rfl ?_
    refine wp_iconst dX11_strand_21 (by decide) ?_
    exact wp_ireturn dX11_strand_22 rfl ⟨rfl, rfl⟩ ⟨rfl, (h.1 c1)⟩
  ·
    refine wp_iload_n dX7_rowAt_4 rfl rfl ?_
    refine wp_aload_n dX7_rowAt_5 rfl rfl ?_
    refine wp_getI dX7_rowAt_6 fX7_36 rfl sh43 (by decide) ?_
    refine wp_icmp_ge (tgt := 21) dX7_rowAt_9 rfl (fun c2 => ?_) (fun c2 => ?_)
    ·
      refine wp_null dX7_rowAt_21 ?_
      refine wp_areturn dX7_rowAt_22 rfl ⟨rfl, rfl⟩ ?_
      show Wp _ _ _ _ _ 8 _ [vN] _ _ _ _ _
      refine wp_astore_nN dX11_strand_8 rfl (by decide) rfl ?_
      refine wp_aload_nN dX11_strand_9 rfl rfl ?_
      refine wp_ifnullN (tgt := 21) dX11_strand_10 rfl ?_
      refine wp_iconst dX11_strand_21 (by decide) ?_
      exact wp_ireturn dX11_strand_22 rfl ⟨rfl, rfl⟩ ⟨rfl, ((h.2 c1).1 c2)⟩
    ·
      refine wp_aload_n dX7_rowAt_12 rfl rfl ?_
      refine wp_getR (b := 44) dX7_rowAt_13 fX7_11 rfl sh43 (by decide) rfl ?_
      refine wp_iload_n dX7_rowAt_16 rfl rfl ?_
      have g3 : (0 : Int) ≤ x1 ∧ x1 < (4 : Nat) := ((h.2 c1).2 c2).1
      refine wp_aald (b := (49 + 2 * Int.toNat x1)) dX7_rowAt_17 sh44 (by decide) g3 (ap_get (b := 49) (s := 2) (n := 4) g3) ?_
      refine wp_goto (tgt := 22) dX7_rowAt_18 rfl ?_
      refine wp_areturn dX7_rowAt_22 rfl ⟨rfl, rfl⟩ ?_
      show Wp _ _ _ _ _ 8 _ [vR (49 + 2 * Int.toNat x1)] _ _ _ _ _
      refine wp_astore_n dX11_strand_8 rfl (by decide) rfl ?_
      refine wp_aload_n dX11_strand_9 rfl rfl ?_
      refine wp_ifnull dX11_strand_10 ?_
      refine wp_aload_n dX11_strand_13 rfl rfl ?_
      refine wp_iload_n dX11_strand_14 rfl rfl ?_
      refine wp_callV (S := []) (as := [vI x2]) dX11_strand_15 lX11_160 (((h.2 c1).2 c2).2) (by omega) (obj44 g3).1 rfl rfl (Nat.le_of_ble_eq_true rfl) ⟨Nat.le_refl _, Nat.le_refl _⟩ ?_
      rintro _ _ V4 ⟨rfl, z4, rfl, q4⟩
      show Wp _ _ _ _ _ 18 _ [vI z4] _ _ _ _ _
      refine wp_if_ne (tgt := 23) dX11_strand_18 rfl (fun c5 => ?_) (fun c5 => ?_)
      ·
        refine wp_aload_n dX11_strand_23 rfl rfl ?_
        refine wp_aload_n dX11_strand_24 rfl rfl ?_
        refine wp_inlV (d' := (d + 1)) (S := []) (as := [vR (49 + 2 * Int.toNat x1)]) dX11_strand_25 lX11_285 (by omega) sh0 rfl rfl (Nat.le_of_ble_eq_true rfl) ⟨Nat.le_refl _, Nat.le_refl _⟩ (Mt.of2 (L := [some (vR 0), some (vR (49 + 2 * Int.toNat x1))]) pnX11 rfl rfl ?_)
        refine wp_aload_n dX11_fillWindows_0 rfl rfl ?_
        refine wp_getR (b := 146) dX11_fillWindows_1 fX11_66 rfl sh0 (by decide) rfl ?_
        refine wp_aload_n dX11_fillWindows_4 rfl rfl ?_
        refine wp_aload_n dX11_fillWindows_5 rfl rfl ?_
        refine wp_getR (b := 135) dX11_fillWindows_6 fX11_47 rfl sh0 (by decide) rfl ?_
        refine wp_callV (S := []) (as := [vR (49 + 2 * Int.toNat x1), vR 135]) dX11_fillWindows_9 lX11_267 ((q4.1 c5)) (by omega) sh146 rfl rfl (Nat.le_of_ble_eq_true rfl) ⟨Nat.le_refl _, Nat.le_refl _⟩ ?_
        rintro _ _ V6 ⟨rfl, rfl, q6⟩
        show Wp _ _ _ _ _ 12 _ [] _ _ _ _ _
        refine wp_aload_n dX11_fillWindows_12 rfl rfl ?_
        refine wp_getR (b := 156) dX11_fillWindows_13 fX11_76 rfl sh0 (by decide) rfl ?_
        refine wp_aload_n dX11_fillWindows_16 rfl rfl ?_
        refine wp_getR (b := 146) dX11_fillWindows_17 fX11_66 rfl sh0 (by decide) rfl ?_
        refine wp_callV (S := []) (as := [vR 146]) dX11_fillWindows_20 lX11_304 (q6) (by omega) sh156 rfl rfl (Nat.le_of_ble_eq_true rfl) ⟨Nat.le_refl _, Nat.le_refl _⟩ ?_
        rintro _ _ V7 ⟨rfl, rfl, q7⟩
        show Wp _ _ _ _ _ 23 _ [] _ _ _ _ _
        refine wp_return dX11_fillWindows_23 rfl ⟨rfl, rfl⟩ ?_
        show Wp _ _ _ _ _ 28 _ [] _ _ _ _ _
        refine wp_aload_n dX11_strand_28 rfl rfl ?_
        refine wp_getR (b := 156) dX11_strand_29 fX11_76 rfl sh0 (by decide) rfl ?_
        refine wp_iload_n dX11_strand_32 rfl rfl ?_
        refine wp_callV (S := []) (as := [vI x2]) dX11_strand_33 lX11_289 (q7) (by omega) sh156 rfl rfl (Nat.le_of_ble_eq_true rfl) ⟨Nat.le_refl _, Nat.le_refl _⟩ ?_
        rintro _ _ V8 ⟨rfl, z8, rfl, q8⟩
        show Wp _ _ _ _ _ 36 _ [vI z8] _ _ _ _ _
        exact wp_ireturn dX11_strand_36 rfl ⟨rfl, rfl⟩ ⟨rfl, q8⟩
      ·
        refine wp_iconst dX11_strand_21 (by decide) ?_
        exact wp_ireturn dX11_strand_22 rfl ⟨rfl, rfl⟩ ⟨rfl, (q4.2 c5)⟩
set_option maxHeartbeats 4000000 in
set_option maxRecDepth 10000 in
theorem sX11_under {K : KK} {d : Nat} {V : Mem} {Q : Option AV → Mem → Prop} (x1 : Int) (x2 : Int) (x3 : Int) (h : ((x1 < 0 → Q (some (vI (-1))) V) ∧ (¬ (x1 < 0) → (((V 43 5) ≤ x1 → Q (some (vI (-1))) V) ∧ (¬ ((V 43 5) ≤ x1) → (((0 : Int) ≤ x1 ∧ x1 < (4 : Nat)) ∧ ((x2 < 0 → Q (some (vI (-1))) V) ∧ (¬ (x2 < 0) → ((x3 < x2 → Q (some (vI (-1))) V) ∧ (¬ (x3 < x2) → (((V (49 + 2 * Int.toNat x1) 3) < x3 → Q (some (vI (-1))) V) ∧ (¬ ((V (49 + 2 * Int.toNat x1) 3) < x3) → Mf K d mX1_load [vR 146, vR (49 + 2 * Int.toNat x1), vR 135] V (fun r V13 => r = none ∧ Mf K d mX10_fillChains [vR 156, vR 146] V13 (fun r V14 => r = none ∧ Mf K (d + 1) mX10_strandsWithin [vR 156, vI x2, vI x3] V14 (fun r V15 => ∃ z15, r = some (vI z15) ∧ Q (some (vI z15)) V15))))))))))))))) : Mf K (d + 2) mX11_under [vR 0, vI x1, vI x2, vI x3] V Q := by
  refine Mt.of2 (L := [some (vR 0), some (vI x1), some (vI x2), some (vI x3), none]) pnX11 rfl rfl ?_
  refine wp_aload_n dX11_under_0 rfl rfl ?_
  refine wp_getR (b := 43) dX11_under_1 fX11_26 rfl sh0 (by decide) rfl ?_
  refine wp_iload_n dX11_under_4 rfl rfl ?_
  refine wp_inlV (d' := (d + 1)) (S := []) (as := [vI x1]) dX11_under_5 lX11_150 (by omega) sh43 rfl rfl (Nat.le_of_ble_eq_true rfl) ⟨Nat.le_refl _, Nat.le_refl _⟩ (Mt.of2 (L := [some (vR 43), some (vI x1)]) pnX7 rfl rfl ?_)
  refine wp_iload_n dX7_rowAt_0 rfl rfl ?_
  refine wp_if_lt (tgt := 21) dX7_rowAt_1 rfl (fun c1 => ?_) (fun c1 => ?_)
  ·
    refine wp_null dX7_rowAt_21 ?_
    refine wp_areturn dX7_rowAt_22 rfl ⟨rfl, rfl⟩ ?_
    show Wp _ _ _ _ _ 8 _ [vN] _ _ _ _ _
    refine wp_astoreN dX11_under_8 (by decide) rfl ?_
    refine wp_aload_n dX11_under_10 rfl rfl ?_
    refine wp_aloadN dX11_under_11 rfl ?_
    refine wp_iload_n dX11_under_13 rfl rfl ?_
    refine wp_iload_n dX11_under_14 rfl rfl ?_
    refine wp_inlV (d' := (d + 1)) (S := []) (as := [vN, vI x2, vI x3]) dX11_under_15 lX11_263 (by omega) sh0 rfl rfl (Nat.le_of_ble_eq_true rfl) ⟨Nat.le_refl _, Nat.le_refl _⟩ (Mt.of2 (L := [some (vR 0), some vN, some (vI x2), some (vI x3)]) pnX11 rfl rfl ?_)
    refine wp_aload_nN dX11_isWindow_0 rfl rfl ?_
    refine wp_ifnullN (tgt := 25) dX11_isWindow_1 rfl ?_
    refine wp_iconst dX11_isWindow_25 (by decide) ?_
    refine wp_zreturn dX11_isWindow_26 rfl ⟨rfl, rfl⟩ (by decide) ?_
    show Wp _ _ _ _ _ 18 _ [vI 0] _ _ _ _ _
    refine wp_if_ne (tgt := 23) dX11_under_18 rfl (fun c2 => False.elim (by revert c2; decide)) (fun c2 => ?_)
    refine wp_iconst dX11_under_21 (by decide) ?_
    exact wp_ireturn dX11_under_22 rfl ⟨rfl, rfl⟩ ⟨rfl, (h.1 c1)⟩
  ·
    refine wp_iload_n dX7_rowAt_4 rfl rfl ?_
    refine wp_aload_n dX7_rowAt_5 rfl rfl ?_
    refine wp_getI dX7_rowAt_6 fX7_36 rfl sh43 (by decide) ?_
    refine wp_icmp_ge (tgt := 21) dX7_rowAt_9 rfl (fun c3 => ?_) (fun c3 => ?_)
    ·
      refine wp_null dX7_rowAt_21 ?_
      refine wp_areturn dX7_rowAt_22 rfl ⟨rfl, rfl⟩ ?_
      show Wp _ _ _ _ _ 8 _ [vN] _ _ _ _ _
      refine wp_astoreN dX11_under_8 (by decide) rfl ?_
      refine wp_aload_n dX11_under_10 rfl rfl ?_
      refine wp_aloadN dX11_under_11 rfl ?_
      refine wp_iload_n dX11_under_13 rfl rfl ?_
      refine wp_iload_n dX11_under_14 rfl rfl ?_
      refine wp_inlV (d' := (d + 1)) (S := []) (as := [vN, vI x2, vI x3]) dX11_under_15 lX11_263 (by omega) sh0 rfl rfl (Nat.le_of_ble_eq_true rfl) ⟨Nat.le_refl _, Nat.le_refl _⟩ (Mt.of2 (L := [some (vR 0), some vN, some (vI x2), some (vI x3)]) pnX11 rfl rfl ?_)
      refine wp_aload_nN dX11_isWindow_0 rfl rfl ?_
      refine wp_ifnullN (tgt := 25) dX11_isWindow_1 rfl ?_
      refine wp_iconst dX11_isWindow_25 (by decide) ?_
      refine wp_zreturn dX11_isWindow_26 rfl ⟨rfl, rfl⟩ (by decide) ?_
      show Wp _ _ _ _ _ 18 _ [vI 0] _ _ _ _ _
      refine wp_if_ne (tgt := 23) dX11_under_18 rfl (fun c4 => False.elim (by revert c4; decide)) (fun c4 => ?_)
      refine wp_iconst dX11_under_21 (by decide) ?_
      exact wp_ireturn dX11_under_22 rfl ⟨rfl, rfl⟩ ⟨rfl, ((h.2 c1).1 c3)⟩
    ·
      refine wp_aload_n dX7_rowAt_12 rfl rfl ?_
      refine wp_getR (b := 44) dX7_rowAt_13 fX7_11 rfl sh43 (by decide) rfl ?_
      refine wp_iload_n dX7_rowAt_16 rfl rfl ?_
      have g5 : (0 : Int) ≤ x1 ∧ x1 < (4 : Nat) := ((h.2 c1).2 c3).1
      refine wp_aald (b := (49 + 2 * Int.toNat x1)) dX7_rowAt_17 sh44 (by decide) g5 (ap_get (b := 49) (s := 2) (n := 4) g5) ?_
      refine wp_goto (tgt := 22) dX7_rowAt_18 rfl ?_
      refine wp_areturn dX7_rowAt_22 rfl ⟨rfl, rfl⟩ ?_
      show Wp _ _ _ _ _ 8 _ [vR (49 + 2 * Int.toNat x1)] _ _ _ _ _
      refine wp_astore dX11_under_8 (by decide) rfl ?_
      refine wp_aload_n dX11_under_10 rfl rfl ?_
      refine wp_aload dX11_under_11 rfl ?_
      refine wp_iload_n dX11_under_13 rfl rfl ?_
      refine wp_iload_n dX11_under_14 rfl rfl ?_
      refine wp_inlV (d' := (d + 1)) (S := []) (as := [vR (49 + 2 * Int.toNat x1), vI x2, vI x3]) dX11_under_15 lX11_263 (by omega) sh0 rfl rfl (Nat.le_of_ble_eq_true rfl) ⟨Nat.le_refl _, Nat.le_refl _⟩ (Mt.of2 (L := [some (vR 0), some (vR (49 + 2 * Int.toNat x1)), some (vI x2), some (vI x3)]) pnX11 rfl rfl ?_)
      refine wp_aload_n dX11_isWindow_0 rfl rfl ?_
      refine wp_ifnull dX11_isWindow_1 ?_
      refine wp_iload_n dX11_isWindow_4 rfl rfl ?_
      refine wp_if_lt (tgt := 25) dX11_isWindow_5 rfl (fun c6 => ?_) (fun c6 => ?_)
      ·
        refine wp_iconst dX11_isWindow_25 (by decide) ?_
        refine wp_zreturn dX11_isWindow_26 rfl ⟨rfl, rfl⟩ (by decide) ?_
        show Wp _ _ _ _ _ 18 _ [vI 0] _ _ _ _ _
        refine wp_if_ne (tgt := 23) dX11_under_18 rfl (fun c7 => False.elim (by revert c7; decide)) (fun c7 => ?_)
        refine wp_iconst dX11_under_21 (by decide) ?_
        exact wp_ireturn dX11_under_22 rfl ⟨rfl, rfl⟩ ⟨rfl, (((h.2 c1).2 c3).2.1 c6)⟩
      ·
        refine wp_iload_n dX11_isWindow_8 rfl rfl ?_
        refine wp_iload_n dX11_isWindow_9 rfl rfl ?_
        refine wp_icmp_gt (tgt := 25) dX11_isWindow_10 rfl (fun c8 => ?_) (fun c8 => ?_)
        ·
          refine wp_iconst dX11_isWindow_25 (by decide) ?_
          refine wp_zreturn dX11_isWindow_26 rfl ⟨rfl, rfl⟩ (by decide) ?_
          show Wp _ _ _ _ _ 18 _ [vI 0] _ _ _ _ _
          refine wp_if_ne (tgt := 23) dX11_under_18 rfl (fun c9 => False.elim (by revert c9; decide)) (fun c9 => ?_)
          refine wp_iconst dX11_under_21 (by decide) ?_
          exact wp_ireturn dX11_under_22 rfl ⟨rfl, rfl⟩ ⟨rfl, ((((h.2 c1).2 c3).2.2 c6).1 c8)⟩
        ·
          refine wp_iload_n dX11_isWindow_13 rfl rfl ?_
          refine wp_aload_n dX11_isWindow_14 rfl rfl ?_
          refine wp_getI dX11_isWindow_15 fX11_157 rfl (obj44 g5).1 (by decide) ?_
          refine wp_icmp_gt (tgt := 25) dX11_isWindow_18 rfl (fun c10 => ?_) (fun c10 => ?_)
          ·
            refine wp_iconst dX11_isWindow_25 (by decide) ?_
            refine wp_zreturn dX11_isWindow_26 rfl ⟨rfl, rfl⟩ (by decide) ?_
            show Wp _ _ _ _ _ 18 _ [vI 0] _ _ _ _ _
            refine wp_if_ne (tgt := 23) dX11_under_18 rfl (fun c11 => False.elim (by revert c11; decide)) (fun c11 => ?_)
            refine wp_iconst dX11_under_21 (by decide) ?_
            exact wp_ireturn dX11_under_22 rfl ⟨rfl, rfl⟩ ⟨rfl, (((((h.2 c1).2 c3).2.2 c6).2 c8).1 c10)⟩
          ·
            refine wp_iconst dX11_isWindow_21 (by decide) ?_
            refine wp_goto (tgt := 26) dX11_isWindow_22 rfl ?_
            refine wp_zreturn dX11_isWindow_26 rfl ⟨rfl, rfl⟩ (by decide) ?_
            show Wp _ _ _ _ _ 18 _ [vI 1] _ _ _ _ _
            refine wp_if_ne (tgt := 23) dX11_under_18 rfl (fun c12 => ?_) (fun c12 => False.elim (by revert c12; decide))
            refine wp_aload_n dX11_under_23 rfl rfl ?_
            refine wp_aload dX11_under_24 rfl ?_
            refine wp_inlV (d' := (d + 1)) (S := []) (as := [vR (49 + 2 * Int.toNat x1)]) dX11_under_26 lX11_285 (by omega) sh0 rfl rfl (Nat.le_of_ble_eq_true rfl) ⟨Nat.le_refl _, Nat.le_refl _⟩ (Mt.of2 (L := [some (vR 0), some (vR (49 + 2 * Int.toNat x1))]) pnX11 rfl rfl ?_)
            refine wp_aload_n dX11_fillWindows_0 rfl rfl ?_
            refine wp_getR (b := 146) dX11_fillWindows_1 fX11_66 rfl sh0 (by decide) rfl ?_
            refine wp_aload_n dX11_fillWindows_4 rfl rfl ?_
            refine wp_aload_n dX11_fillWindows_5 rfl rfl ?_
            refine wp_getR (b := 135) dX11_fillWindows_6 fX11_47 rfl sh0 (by decide) rfl ?_
            refine wp_callV (S := []) (as := [vR (49 + 2 * Int.toNat x1), vR 135]) dX11_fillWindows_9 lX11_267 ((((((h.2 c1).2 c3).2.2 c6).2 c8).2 c10)) (by omega) sh146 rfl rfl (Nat.le_of_ble_eq_true rfl) ⟨Nat.le_refl _, Nat.le_refl _⟩ ?_
            rintro _ _ V13 ⟨rfl, rfl, q13⟩
            show Wp _ _ _ _ _ 12 _ [] _ _ _ _ _
            refine wp_aload_n dX11_fillWindows_12 rfl rfl ?_
            refine wp_getR (b := 156) dX11_fillWindows_13 fX11_76 rfl sh0 (by decide) rfl ?_
            refine wp_aload_n dX11_fillWindows_16 rfl rfl ?_
            refine wp_getR (b := 146) dX11_fillWindows_17 fX11_66 rfl sh0 (by decide) rfl ?_
            refine wp_callV (S := []) (as := [vR 146]) dX11_fillWindows_20 lX11_304 (q13) (by omega) sh156 rfl rfl (Nat.le_of_ble_eq_true rfl) ⟨Nat.le_refl _, Nat.le_refl _⟩ ?_
            rintro _ _ V14 ⟨rfl, rfl, q14⟩
            show Wp _ _ _ _ _ 23 _ [] _ _ _ _ _
            refine wp_return dX11_fillWindows_23 rfl ⟨rfl, rfl⟩ ?_
            show Wp _ _ _ _ _ 29 _ [] _ _ _ _ _
            refine wp_aload_n dX11_under_29 rfl rfl ?_
            refine wp_getR (b := 156) dX11_under_30 fX11_76 rfl sh0 (by decide) rfl ?_
            refine wp_iload_n dX11_under_33 rfl rfl ?_
            refine wp_iload_n dX11_under_34 rfl rfl ?_
            refine wp_callV (S := []) (as := [vI x2, vI x3]) dX11_under_35 lX11_292 (q14) (by omega) sh156 rfl rfl (Nat.le_of_ble_eq_true rfl) ⟨Nat.le_refl _, Nat.le_refl _⟩ ?_
            rintro _ _ V15 ⟨rfl, z15, rfl, q15⟩
            show Wp _ _ _ _ _ 38 _ [vI z15] _ _ _ _ _
            exact wp_ireturn dX11_under_38 rfl ⟨rfl, rfl⟩ ⟨rfl, q15⟩
set_option maxHeartbeats 4000000 in
set_option maxRecDepth 10000 in
theorem sX11_how {K : KK} {d : Nat} {V : Mem} {Q : Option AV → Mem → Prop} (x1 : Int) (x2 : Int) (h : ((x1 < 0 → Q (some (vI (-1))) V) ∧ (¬ (x1 < 0) → (((V 43 5) ≤ x1 → Q (some (vI (-1))) V) ∧ (¬ ((V 43 5) ≤ x1) → (((0 : Int) ≤ x1 ∧ x1 < (4 : Nat)) ∧ ((x2 < 0 → Q (some (vI (-1))) V) ∧ (¬ (x2 < 0) → ((x2 ≤ 20 → Mf K d mX1_load [vR 146, vR (49 + 2 * Int.toNat x1), vR 135] V (fun r V6 => r = none ∧ Mf K d mX10_fillChains [vR 156, vR 146] V6 (fun r V7 => r = none ∧ Mf K (d + 1) mX10_having [vR 156, vI x2] V7 (fun r V8 => ∃ z8, r = some (vI z8) ∧ Q (some (vI z8)) V8)))) ∧ (¬ (x2 ≤ 20) → Q (some (vI (-1))) V)))))))))) : Mf K (d + 2) mX11_how [vR 0, vI x1, vI x2] V Q := by
  refine Mt.of2 (L := [some (vR 0), some (vI x1), some (vI x2), none]) pnX11 rfl rfl ?_
  refine wp_aload_n dX11_how_0 rfl rfl ?_
  refine wp_getR (b := 43) dX11_how_1 fX11_26 rfl sh0 (by decide) rfl ?_
  refine wp_iload_n dX11_how_4 rfl rfl ?_
  refine wp_inlV (d' := (d + 1)) (S := []) (as := [vI x1]) dX11_how_5 lX11_150 (by omega) sh43 rfl rfl (Nat.le_of_ble_eq_true rfl) ⟨Nat.le_refl _, Nat.le_refl _⟩ (Mt.of2 (L := [some (vR 43), some (vI x1)]) pnX7 rfl rfl ?_)
  refine wp_iload_n dX7_rowAt_0 rfl rfl ?_
  refine wp_if_lt (tgt := 21) dX7_rowAt_1 rfl (fun c1 => ?_) (fun c1 => ?_)
  ·
    refine wp_null dX7_rowAt_21 ?_
    refine wp_areturn dX7_rowAt_22 rfl ⟨rfl, rfl⟩ ?_
    show Wp _ _ _ _ _ 8 _ [vN] _ _ _ _ _
    refine wp_astore_nN dX11_how_8 rfl (by decide) rfl ?_
    refine wp_aload_nN dX11_how_9 rfl rfl ?_
    refine wp_ifnullN (tgt := 23) dX11_how_10 rfl ?_
    refine wp_iconst dX11_how_23 (by decide) ?_
    exact wp_ireturn dX11_how_24 rfl ⟨rfl, rfl⟩ ⟨rfl, (h.1 c1)⟩
  ·
    refine wp_iload_n dX7_rowAt_4 rfl rfl ?_
    refine wp_aload_n dX7_rowAt_5 rfl rfl ?_
    refine wp_getI dX7_rowAt_6 fX7_36 rfl sh43 (by decide) ?_
    refine wp_icmp_ge (tgt := 21) dX7_rowAt_9 rfl (fun c2 => ?_) (fun c2 => ?_)
    ·
      refine wp_null dX7_rowAt_21 ?_
      refine wp_areturn dX7_rowAt_22 rfl ⟨rfl, rfl⟩ ?_
      show Wp _ _ _ _ _ 8 _ [vN] _ _ _ _ _
      refine wp_astore_nN dX11_how_8 rfl (by decide) rfl ?_
      refine wp_aload_nN dX11_how_9 rfl rfl ?_
      refine wp_ifnullN (tgt := 23) dX11_how_10 rfl ?_
      refine wp_iconst dX11_how_23 (by decide) ?_
      exact wp_ireturn dX11_how_24 rfl ⟨rfl, rfl⟩ ⟨rfl, ((h.2 c1).1 c2)⟩
    ·
      refine wp_aload_n dX7_rowAt_12 rfl rfl ?_
      refine wp_getR (b := 44) dX7_rowAt_13 fX7_11 rfl sh43 (by decide) rfl ?_
      refine wp_iload_n dX7_rowAt_16 rfl rfl ?_
      have g3 : (0 : Int) ≤ x1 ∧ x1 < (4 : Nat) := ((h.2 c1).2 c2).1
      refine wp_aald (b := (49 + 2 * Int.toNat x1)) dX7_rowAt_17 sh44 (by decide) g3 (ap_get (b := 49) (s := 2) (n := 4) g3) ?_
      refine wp_goto (tgt := 22) dX7_rowAt_18 rfl ?_
      refine wp_areturn dX7_rowAt_22 rfl ⟨rfl, rfl⟩ ?_
      show Wp _ _ _ _ _ 8 _ [vR (49 + 2 * Int.toNat x1)] _ _ _ _ _
      refine wp_astore_n dX11_how_8 rfl (by decide) rfl ?_
      refine wp_aload_n dX11_how_9 rfl rfl ?_
      refine wp_ifnull dX11_how_10 ?_
      refine wp_iload_n dX11_how_13 rfl rfl ?_
      refine wp_if_lt (tgt := 23) dX11_how_14 rfl (fun c4 => ?_) (fun c4 => ?_)
      ·
        refine wp_iconst dX11_how_23 (by decide) ?_
        exact wp_ireturn dX11_how_24 rfl ⟨rfl, rfl⟩ ⟨rfl, (((h.2 c1).2 c2).2.1 c4)⟩
      ·
        refine wp_iload_n dX11_how_17 rfl rfl ?_
        refine wp_bipush dX11_how_18 (by decide) ?_
        refine wp_icmp_le (tgt := 25) dX11_how_20 rfl (fun c5 => ?_) (fun c5 => ?_)
        ·
          refine wp_aload_n dX11_how_25 rfl rfl ?_
          refine wp_aload_n dX11_how_26 rfl rfl ?_
          refine wp_inlV (d' := (d + 1)) (S := []) (as := [vR (49 + 2 * Int.toNat x1)]) dX11_how_27 lX11_285 (by omega) sh0 rfl rfl (Nat.le_of_ble_eq_true rfl) ⟨Nat.le_refl _, Nat.le_refl _⟩ (Mt.of2 (L := [some (vR 0), some (vR (49 + 2 * Int.toNat x1))]) pnX11 rfl rfl ?_)
          refine wp_aload_n dX11_fillWindows_0 rfl rfl ?_
          refine wp_getR (b := 146) dX11_fillWindows_1 fX11_66 rfl sh0 (by decide) rfl ?_
          refine wp_aload_n dX11_fillWindows_4 rfl rfl ?_
          refine wp_aload_n dX11_fillWindows_5 rfl rfl ?_
          refine wp_getR (b := 135) dX11_fillWindows_6 fX11_47 rfl sh0 (by decide) rfl ?_
          refine wp_callV (S := []) (as := [vR (49 + 2 * Int.toNat x1), vR 135]) dX11_fillWindows_9 lX11_267 (((((h.2 c1).2 c2).2.2 c4).1 c5)) (by omega) sh146 rfl rfl (Nat.le_of_ble_eq_true rfl) ⟨Nat.le_refl _, Nat.le_refl _⟩ ?_
          rintro _ _ V6 ⟨rfl, rfl, q6⟩
          show Wp _ _ _ _ _ 12 _ [] _ _ _ _ _
          refine wp_aload_n dX11_fillWindows_12 rfl rfl ?_
          refine wp_getR (b := 156) dX11_fillWindows_13 fX11_76 rfl sh0 (by decide) rfl ?_
          refine wp_aload_n dX11_fillWindows_16 rfl rfl ?_
          refine wp_getR (b := 146) dX11_fillWindows_17 fX11_66 rfl sh0 (by decide) rfl ?_
          refine wp_callV (S := []) (as := [vR 146]) dX11_fillWindows_20 lX11_304 (q6) (by omega) sh156 rfl rfl (Nat.le_of_ble_eq_true rfl) ⟨Nat.le_refl _, Nat.le_refl _⟩ ?_
          rintro _ _ V7 ⟨rfl, rfl, q7⟩
          show Wp _ _ _ _ _ 23 _ [] _ _ _ _ _
          refine wp_return dX11_fillWindows_23 rfl ⟨rfl, rfl⟩ ?_
          show Wp _ _ _ _ _ 30 _ [] _ _ _ _ _
          refine wp_aload_n dX11_how_30 rfl rfl ?_
          refine wp_getR (b := 156) dX11_how_31 fX11_76 rfl sh0 (by decide) rfl ?_
          refine wp_iload_n dX11_how_34 rfl rfl ?_
          refine wp_callV (S := []) (as := [vI x2]) dX11_how_35 lX11_295 (q7) (by omega) sh156 rfl rfl (Nat.le_of_ble_eq_true rfl) ⟨Nat.le_refl _, Nat.le_refl _⟩ ?_
          rintro _ _ V8 ⟨rfl, z8, rfl, q8⟩
          show Wp _ _ _ _ _ 38 _ [vI z8] _ _ _ _ _
          exact wp_ireturn dX11_how_38 rfl ⟨rfl, rfl⟩ ⟨rfl, q8⟩
        ·
          refine wp_iconst dX11_how_23 (by decide) ?_
          exact wp_ireturn dX11_how_24 rfl ⟨rfl, rfl⟩ ⟨rfl, ((((h.2 c1).2 c2).2.2 c4).2 c5)⟩
set_option maxHeartbeats 4000000 in
set_option maxRecDepth 10000 in
theorem sX11_best {K : KK} {d : Nat} {V : Mem} {Q : Option AV → Mem → Prop} (x1 : Int) (x2 : Int) (h : ((x1 < 0 → Q (some (vI (-1))) V) ∧ (¬ (x1 < 0) → (((V 43 5) ≤ x1 → Q (some (vI (-1))) V) ∧ (¬ ((V 43 5) ≤ x1) → (((0 : Int) ≤ x1 ∧ x1 < (4 : Nat)) ∧ ((x2 < 0 → Q (some (vI (-1))) V) ∧ (¬ (x2 < 0) → ((x2 ≤ (V (49 + 2 * Int.toNat x1) 3) → Mf K d mX1_load [vR 146, vR (49 + 2 * Int.toNat x1), vR 135] V (fun r V6 => r = none ∧ Mf K d mX10_fillChains [vR 156, vR 146] V6 (fun r V7 => r = none ∧ Mf K (d + 1) mX10_bestFrom [vR 156, vI x2] V7 (fun r V8 => ∃ z8, r = some (vI z8) ∧ Q (some (vI z8)) V8)))) ∧ (¬ (x2 ≤ (V (49 + 2 * Int.toNat x1) 3)) → Q (some (vI (-1))) V)))))))))) : Mf K (d + 2) mX11_best [vR 0, vI x1, vI x2] V Q := by
  refine Mt.of2 (L := [some (vR 0), some (vI x1), some (vI x2), none]) pnX11 rfl rfl ?_
  refine wp_aload_n dX11_best_0 rfl rfl ?_
  refine wp_getR (b := 43) dX11_best_1 fX11_26 rfl sh0 (by decide) rfl ?_
  refine wp_iload_n dX11_best_4 rfl rfl ?_
  refine wp_inlV (d' := (d + 1)) (S := []) (as := [vI x1]) dX11_best_5 lX11_150 (by omega) sh43 rfl rfl (Nat.le_of_ble_eq_true rfl) ⟨Nat.le_refl _, Nat.le_refl _⟩ (Mt.of2 (L := [some (vR 43), some (vI x1)]) pnX7 rfl rfl ?_)
  refine wp_iload_n dX7_rowAt_0 rfl rfl ?_
  refine wp_if_lt (tgt := 21) dX7_rowAt_1 rfl (fun c1 => ?_) (fun c1 => ?_)
  ·
    refine wp_null dX7_rowAt_21 ?_
    refine wp_areturn dX7_rowAt_22 rfl ⟨rfl, rfl⟩ ?_
    show Wp _ _ _ _ _ 8 _ [vN] _ _ _ _ _
    refine wp_astore_nN dX11_best_8 rfl (by decide) rfl ?_
    refine wp_aload_nN dX11_best_9 rfl rfl ?_
    refine wp_ifnullN (tgt := 25) dX11_best_10 rfl ?_
    refine wp_iconst dX11_best_25 (by decide) ?_
    exact wp_ireturn dX11_best_26 rfl ⟨rfl, rfl⟩ ⟨rfl, (h.1 c1)⟩
  ·
    refine wp_iload_n dX7_rowAt_4 rfl rfl ?_
    refine wp_aload_n dX7_rowAt_5 rfl rfl ?_
    refine wp_getI dX7_rowAt_6 fX7_36 rfl sh43 (by decide) ?_
    refine wp_icmp_ge (tgt := 21) dX7_rowAt_9 rfl (fun c2 => ?_) (fun c2 => ?_)
    ·
      refine wp_null dX7_rowAt_21 ?_
      refine wp_areturn dX7_rowAt_22 rfl ⟨rfl, rfl⟩ ?_
      show Wp _ _ _ _ _ 8 _ [vN] _ _ _ _ _
      refine wp_astore_nN dX11_best_8 rfl (by decide) rfl ?_
      refine wp_aload_nN dX11_best_9 rfl rfl ?_
      refine wp_ifnullN (tgt := 25) dX11_best_10 rfl ?_
      refine wp_iconst dX11_best_25 (by decide) ?_
      exact wp_ireturn dX11_best_26 rfl ⟨rfl, rfl⟩ ⟨rfl, ((h.2 c1).1 c2)⟩
    ·
      refine wp_aload_n dX7_rowAt_12 rfl rfl ?_
      refine wp_getR (b := 44) dX7_rowAt_13 fX7_11 rfl sh43 (by decide) rfl ?_
      refine wp_iload_n dX7_rowAt_16 rfl rfl ?_
      have g3 : (0 : Int) ≤ x1 ∧ x1 < (4 : Nat) := ((h.2 c1).2 c2).1
      refine wp_aald (b := (49 + 2 * Int.toNat x1)) dX7_rowAt_17 sh44 (by decide) g3 (ap_get (b := 49) (s := 2) (n := 4) g3) ?_
      refine wp_goto (tgt := 22) dX7_rowAt_18 rfl ?_
      refine wp_areturn dX7_rowAt_22 rfl ⟨rfl, rfl⟩ ?_
      show Wp _ _ _ _ _ 8 _ [vR (49 + 2 * Int.toNat x1)] _ _ _ _ _
      refine wp_astore_n dX11_best_8 rfl (by decide) rfl ?_
      refine wp_aload_n dX11_best_9 rfl rfl ?_
      refine wp_ifnull dX11_best_10 ?_
      refine wp_iload_n dX11_best_13 rfl rfl ?_
      refine wp_if_lt (tgt := 25) dX11_best_14 rfl (fun c4 => ?_) (fun c4 => ?_)
      ·
        refine wp_iconst dX11_best_25 (by decide) ?_
        exact wp_ireturn dX11_best_26 rfl ⟨rfl, rfl⟩ ⟨rfl, (((h.2 c1).2 c2).2.1 c4)⟩
      ·
        refine wp_iload_n dX11_best_17 rfl rfl ?_
        refine wp_aload_n dX11_best_18 rfl rfl ?_
        refine wp_getI dX11_best_19 fX11_157 rfl (obj44 g3).1 (by decide) ?_
        refine wp_icmp_le (tgt := 27) dX11_best_22 rfl (fun c5 => ?_) (fun c5 => ?_)
        ·
          refine wp_aload_n dX11_best_27 rfl rfl ?_
          refine wp_aload_n dX11_best_28 rfl rfl ?_
          refine wp_inlV (d' := (d + 1)) (S := []) (as := [vR (49 + 2 * Int.toNat x1)]) dX11_best_29 lX11_285 (by omega) sh0 rfl rfl (Nat.le_of_ble_eq_true rfl) ⟨Nat.le_refl _, Nat.le_refl _⟩ (Mt.of2 (L := [some (vR 0), some (vR (49 + 2 * Int.toNat x1))]) pnX11 rfl rfl ?_)
          refine wp_aload_n dX11_fillWindows_0 rfl rfl ?_
          refine wp_getR (b := 146) dX11_fillWindows_1 fX11_66 rfl sh0 (by decide) rfl ?_
          refine wp_aload_n dX11_fillWindows_4 rfl rfl ?_
          refine wp_aload_n dX11_fillWindows_5 rfl rfl ?_
          refine wp_getR (b := 135) dX11_fillWindows_6 fX11_47 rfl sh0 (by decide) rfl ?_
          refine wp_callV (S := []) (as := [vR (49 + 2 * Int.toNat x1), vR 135]) dX11_fillWindows_9 lX11_267 (((((h.2 c1).2 c2).2.2 c4).1 c5)) (by omega) sh146 rfl rfl (Nat.le_of_ble_eq_true rfl) ⟨Nat.le_refl _, Nat.le_refl _⟩ ?_
          rintro _ _ V6 ⟨rfl, rfl, q6⟩
          show Wp _ _ _ _ _ 12 _ [] _ _ _ _ _
          refine wp_aload_n dX11_fillWindows_12 rfl rfl ?_
          refine wp_getR (b := 156) dX11_fillWindows_13 fX11_76 rfl sh0 (by decide) rfl ?_
          refine wp_aload_n dX11_fillWindows_16 rfl rfl ?_
          refine wp_getR (b := 146) dX11_fillWindows_17 fX11_66 rfl sh0 (by decide) rfl ?_
          refine wp_callV (S := []) (as := [vR 146]) dX11_fillWindows_20 lX11_304 (q6) (by omega) sh156 rfl rfl (Nat.le_of_ble_eq_true rfl) ⟨Nat.le_refl _, Nat.le_refl _⟩ ?_
          rintro _ _ V7 ⟨rfl, rfl, q7⟩
          show Wp _ _ _ _ _ 23 _ [] _ _ _ _ _
          refine wp_return dX11_fillWindows_23 rfl ⟨rfl, rfl⟩ ?_
          show Wp _ _ _ _ _ 32 _ [] _ _ _ _ _
          refine wp_aload_n dX11_best_32 rfl rfl ?_
          refine wp_getR (b := 156) dX11_best_33 fX11_76 rfl sh0 (by decide) rfl ?_
          refine wp_iload_n dX11_best_36 rfl rfl ?_
          refine wp_callV (S := []) (as := [vI x2]) dX11_best_37 lX11_298 (q7) (by omega) sh156 rfl rfl (Nat.le_of_ble_eq_true rfl) ⟨Nat.le_refl _, Nat.le_refl _⟩ ?_
          rintro _ _ V8 ⟨rfl, z8, rfl, q8⟩
          show Wp _ _ _ _ _ 40 _ [vI z8] _ _ _ _ _
          exact wp_ireturn dX11_best_40 rfl ⟨rfl, rfl⟩ ⟨rfl, q8⟩
        ·
          refine wp_iconst dX11_best_25 (by decide) ?_
          exact wp_ireturn dX11_best_26 rfl ⟨rfl, rfl⟩ ⟨rfl, ((((h.2 c1).2 c2).2.2 c4).2 c5)⟩
set_option maxHeartbeats 4000000 in
set_option maxRecDepth 10000 in
theorem sX11_near {K : KK} {d : Nat} {V : Mem} {Q : Option AV → Mem → Prop} (x1 : Int) (x2 : Int) (h : ((x1 < 0 → Q (some (vI (-1))) V) ∧ (¬ (x1 < 0) → (((V 43 5) ≤ x1 → Q (some (vI (-1))) V) ∧ (¬ ((V 43 5) ≤ x1) → (((0 : Int) ≤ x1 ∧ x1 < (4 : Nat)) ∧ ((x2 < 0 → Q (some (vI (-1))) V) ∧ (¬ (x2 < 0) → ((x2 ≤ 20 → Mf K d mX1_load [vR 146, vR (49 + 2 * Int.toNat x1), vR 135] V (fun r V6 => r = none ∧ Mf K d mX10_fillChains [vR 156, vR 146] V6 (fun r V7 => r = none ∧ Mf K (d + 1) mX10_narrowest [vR 156, vI x2] V7 (fun r V8 => ∃ z8, r = some (vI z8) ∧ Q (some (vI z8)) V8)))) ∧ (¬ (x2 ≤ 20) → Q (some (vI (-1))) V)))))))))) : Mf K (d + 2) mX11_near [vR 0, vI x1, vI x2] V Q := by
  refine Mt.of2 (L := [some (vR 0), some (vI x1), some (vI x2), none]) pnX11 rfl rfl ?_
  refine wp_aload_n dX11_near_0 rfl rfl ?_
  refine wp_getR (b := 43) dX11_near_1 fX11_26 rfl sh0 (by decide) rfl ?_
  refine wp_iload_n dX11_near_4 rfl rfl ?_
  refine wp_inlV (d' := (d + 1)) (S := []) (as := [vI x1]) dX11_near_5 lX11_150 (by omega) sh43 rfl rfl (Nat.le_of_ble_eq_true rfl) ⟨Nat.le_refl _, Nat.le_refl _⟩ (Mt.of2 (L := [some (vR 43), some (vI x1)]) pnX7 rfl rfl ?_)
  refine wp_iload_n dX7_rowAt_0 rfl rfl ?_
  refine wp_if_lt (tgt := 21) dX7_rowAt_1 rfl (fun c1 => ?_) (fun c1 => ?_)
  ·
    refine wp_null dX7_rowAt_21 ?_
    refine wp_areturn dX7_rowAt_22 rfl ⟨rfl, rfl⟩ ?_
    show Wp _ _ _ _ _ 8 _ [vN] _ _ _ _ _
    refine wp_astore_nN dX11_near_8 rfl (by decide) rfl ?_
    refine wp_aload_nN dX11_near_9 rfl rfl ?_
    refine wp_ifnullN (tgt := 23) dX11_near_10 rfl ?_
    refine wp_iconst dX11_near_23 (by decide) ?_
    exact wp_ireturn dX11_near_24 rfl ⟨rfl, rfl⟩ ⟨rfl, (h.1 c1)⟩
  ·
    refine wp_iload_n dX7_rowAt_4 rfl rfl ?_
    refine wp_aload_n dX7_rowAt_5 rfl rfl ?_
    refine wp_getI dX7_rowAt_6 fX7_36 rfl sh43 (by decide) ?_
    refine wp_icmp_ge (tgt := 21) dX7_rowAt_9 rfl (fun c2 => ?_) (fun c2 => ?_)
    ·
      refine wp_null dX7_rowAt_21 ?_
      refine wp_areturn dX7_rowAt_22 rfl ⟨rfl, rfl⟩ ?_
      show Wp _ _ _ _ _ 8 _ [vN] _ _ _ _ _
      refine wp_astore_nN dX11_near_8 rfl (by decide) rfl ?_
      refine wp_aload_nN dX11_near_9 rfl rfl ?_
      refine wp_ifnullN (tgt := 23) dX11_near_10 rfl ?_
      refine wp_iconst dX11_near_23 (by decide) ?_
      exact wp_ireturn dX11_near_24 rfl ⟨rfl, rfl⟩ ⟨rfl, ((h.2 c1).1 c2)⟩
    ·
      refine wp_aload_n dX7_rowAt_12 rfl rfl ?_
      refine wp_getR (b := 44) dX7_rowAt_13 fX7_11 rfl sh43 (by decide) rfl ?_
      refine wp_iload_n dX7_rowAt_16 rfl rfl ?_
      have g3 : (0 : Int) ≤ x1 ∧ x1 < (4 : Nat) := ((h.2 c1).2 c2).1
      refine wp_aald (b := (49 + 2 * Int.toNat x1)) dX7_rowAt_17 sh44 (by decide) g3 (ap_get (b := 49) (s := 2) (n := 4) g3) ?_
      refine wp_goto (tgt := 22) dX7_rowAt_18 rfl ?_
      refine wp_areturn dX7_rowAt_22 rfl ⟨rfl, rfl⟩ ?_
      show Wp _ _ _ _ _ 8 _ [vR (49 + 2 * Int.toNat x1)] _ _ _ _ _
      refine wp_astore_n dX11_near_8 rfl (by decide) rfl ?_
      refine wp_aload_n dX11_near_9 rfl rfl ?_
      refine wp_ifnull dX11_near_10 ?_
      refine wp_iload_n dX11_near_13 rfl rfl ?_
      refine wp_if_lt (tgt := 23) dX11_near_14 rfl (fun c4 => ?_) (fun c4 => ?_)
      ·
        refine wp_iconst dX11_near_23 (by decide) ?_
        exact wp_ireturn dX11_near_24 rfl ⟨rfl, rfl⟩ ⟨rfl, (((h.2 c1).2 c2).2.1 c4)⟩
      ·
        refine wp_iload_n dX11_near_17 rfl rfl ?_
        refine wp_bipush dX11_near_18 (by decide) ?_
        refine wp_icmp_le (tgt := 25) dX11_near_20 rfl (fun c5 => ?_) (fun c5 => ?_)
        ·
          refine wp_aload_n dX11_near_25 rfl rfl ?_
          refine wp_aload_n dX11_near_26 rfl rfl ?_
          refine wp_inlV (d' := (d + 1)) (S := []) (as := [vR (49 + 2 * Int.toNat x1)]) dX11_near_27 lX11_285 (by omega) sh0 rfl rfl (Nat.le_of_ble_eq_true rfl) ⟨Nat.le_refl _, Nat.le_refl _⟩ (Mt.of2 (L := [some (vR 0), some (vR (49 + 2 * Int.toNat x1))]) pnX11 rfl rfl ?_)
          refine wp_aload_n dX11_fillWindows_0 rfl rfl ?_
          refine wp_getR (b := 146) dX11_fillWindows_1 fX11_66 rfl sh0 (by decide) rfl ?_
          refine wp_aload_n dX11_fillWindows_4 rfl rfl ?_
          refine wp_aload_n dX11_fillWindows_5 rfl rfl ?_
          refine wp_getR (b := 135) dX11_fillWindows_6 fX11_47 rfl sh0 (by decide) rfl ?_
          refine wp_callV (S := []) (as := [vR (49 + 2 * Int.toNat x1), vR 135]) dX11_fillWindows_9 lX11_267 (((((h.2 c1).2 c2).2.2 c4).1 c5)) (by omega) sh146 rfl rfl (Nat.le_of_ble_eq_true rfl) ⟨Nat.le_refl _, Nat.le_refl _⟩ ?_
          rintro _ _ V6 ⟨rfl, rfl, q6⟩
          show Wp _ _ _ _ _ 12 _ [] _ _ _ _ _
          refine wp_aload_n dX11_fillWindows_12 rfl rfl ?_
          refine wp_getR (b := 156) dX11_fillWindows_13 fX11_76 rfl sh0 (by decide) rfl ?_
          refine wp_aload_n dX11_fillWindows_16 rfl rfl ?_
          refine wp_getR (b := 146) dX11_fillWindows_17 fX11_66 rfl sh0 (by decide) rfl ?_
          refine wp_callV (S := []) (as := [vR 146]) dX11_fillWindows_20 lX11_304 (q6) (by omega) sh156 rfl rfl (Nat.le_of_ble_eq_true rfl) ⟨Nat.le_refl _, Nat.le_refl _⟩ ?_
          rintro _ _ V7 ⟨rfl, rfl, q7⟩
          show Wp _ _ _ _ _ 23 _ [] _ _ _ _ _
          refine wp_return dX11_fillWindows_23 rfl ⟨rfl, rfl⟩ ?_
          show Wp _ _ _ _ _ 30 _ [] _ _ _ _ _
          refine wp_aload_n dX11_near_30 rfl rfl ?_
          refine wp_getR (b := 156) dX11_near_31 fX11_76 rfl sh0 (by decide) rfl ?_
          refine wp_iload_n dX11_near_34 rfl rfl ?_
          refine wp_callV (S := []) (as := [vI x2]) dX11_near_35 lX11_301 (q7) (by omega) sh156 rfl rfl (Nat.le_of_ble_eq_true rfl) ⟨Nat.le_refl _, Nat.le_refl _⟩ ?_
          rintro _ _ V8 ⟨rfl, z8, rfl, q8⟩
          show Wp _ _ _ _ _ 38 _ [vI z8] _ _ _ _ _
          exact wp_ireturn dX11_near_38 rfl ⟨rfl, rfl⟩ ⟨rfl, q8⟩
        ·
          refine wp_iconst dX11_near_23 (by decide) ?_
          exact wp_ireturn dX11_near_24 rfl ⟨rfl, rfl⟩ ⟨rfl, ((((h.2 c1).2 c2).2.2 c4).2 c5)⟩
set_option maxHeartbeats 4000000 in
set_option maxRecDepth 10000 in
theorem sX11_fillWindows {K : KK} {d : Nat} {V : Mem} {Q : Option AV → Mem → Prop} (a1 : Nat) (h1 : IsRow a1) (h : Mf K d mX1_load [vR 146, vR a1, vR 135] V (fun r V1 => r = none ∧ Mf K d mX10_fillChains [vR 156, vR 146] V1 (fun r V2 => r = none ∧ Q none V2))) : Mf K (d + 1) mX11_fillWindows [vR 0, vR a1] V Q := by
  refine Mt.of2 (L := [some (vR 0), some (vR a1)]) pnX11 rfl rfl ?_
  refine wp_aload_n dX11_fillWindows_0 rfl rfl ?_
  refine wp_getR (b := 146) dX11_fillWindows_1 fX11_66 rfl sh0 (by decide) rfl ?_
  refine wp_aload_n dX11_fillWindows_4 rfl rfl ?_
  refine wp_aload_n dX11_fillWindows_5 rfl rfl ?_
  refine wp_getR (b := 135) dX11_fillWindows_6 fX11_47 rfl sh0 (by decide) rfl ?_
  refine wp_callV (S := []) (as := [vR a1, vR 135]) dX11_fillWindows_9 lX11_267 (h) (by omega) sh146 rfl rfl (Nat.le_of_ble_eq_true rfl) ⟨Nat.le_refl _, Nat.le_refl _⟩ ?_
  rintro _ _ V1 ⟨rfl, rfl, q1⟩
  show Wp _ _ _ _ _ 12 _ [] _ _ _ _ _
  refine wp_aload_n dX11_fillWindows_12 rfl rfl ?_
  refine wp_getR (b := 156) dX11_fillWindows_13 fX11_76 rfl sh0 (by decide) rfl ?_
  refine wp_aload_n dX11_fillWindows_16 rfl rfl ?_
  refine wp_getR (b := 146) dX11_fillWindows_17 fX11_66 rfl sh0 (by decide) rfl ?_
  refine wp_callV (S := []) (as := [vR 146]) dX11_fillWindows_20 lX11_304 (q1) (by omega) sh156 rfl rfl (Nat.le_of_ble_eq_true rfl) ⟨Nat.le_refl _, Nat.le_refl _⟩ ?_
  rintro _ _ V2 ⟨rfl, rfl, q2⟩
  show Wp _ _ _ _ _ 23 _ [] _ _ _ _ _
  exact wp_return dX11_fillWindows_23 rfl ⟨rfl, rfl⟩ ⟨rfl, q2⟩
set_option maxHeartbeats 4000000 in
set_option maxRecDepth 10000 in
theorem sX11_common {K : KK} {d : Nat} {V : Mem} {Q : Option AV → Mem → Prop} (x1 : Int) (x2 : Int) (x3 : Int) (x4 : Int) (h : ((x1 < 0 → ((x2 < 0 → Q (some (vI (-1))) V) ∧ (¬ (x2 < 0) → (((V 43 5) ≤ x2 → Q (some (vI (-1))) V) ∧ (¬ ((V 43 5) ≤ x2) → (((0 : Int) ≤ x2 ∧ x2 < (4 : Nat)) ∧ Q (some (vI (-1))) V)))))) ∧ (¬ (x1 < 0) → (((V 43 5) ≤ x1 → ((x2 < 0 → Q (some (vI (-1))) V) ∧ (¬ (x2 < 0) → (((V 43 5) ≤ x2 → Q (some (vI (-1))) V) ∧ (¬ ((V 43 5) ≤ x2) → (((0 : Int) ≤ x2 ∧ x2 < (4 : Nat)) ∧ Q (some (vI (-1))) V)))))) ∧ (¬ ((V 43 5) ≤ x1) → (((0 : Int) ≤ x1 ∧ x1 < (4 : Nat)) ∧ ((x2 < 0 → Q (some (vI (-1))) V) ∧ (¬ (x2 < 0) → (((V 43 5) ≤ x2 → Q (some (vI (-1))) V) ∧ (¬ ((V 43 5) ≤ x2) → (((0 : Int) ≤ x2 ∧ x2 < (4 : Nat)) ∧ ((x3 < 0 → Q (some (vI (-1))) V) ∧ (¬ (x3 < 0) → ((x4 < x3 → Q (some (vI (-1))) V) ∧ (¬ (x4 < x3) → (((V (49 + 2 * Int.toNat x2) 3) < x4 → Q (some (vI (-1))) V) ∧ (¬ ((V (49 + 2 * Int.toNat x2) 3) < x4) → Mf K d mX1_load [vR 151, vR (49 + 2 * Int.toNat x1), vR 135] V (fun r V22 => r = none ∧ Mf K d mX1_load [vR 146, vR (49 + 2 * Int.toNat x2), vR 135] V22 (fun r V23 => r = none ∧ Mf K d mX10_fillCommon [vR 156, vR 151, vR 146] V23 (fun r V24 => r = none ∧ Mf K (d + 1) mX10_lengthOf [vR 156, vI x3, vI x4] V24 (fun r V25 => ∃ z25, r = some (vI z25) ∧ Q (some (vI z25)) V25))))))))))))))))))))) : Mf K (d + 2) mX11_common [vR 0, vI x1, vI x2, vI x3, vI x4] V Q := by
  refine Mt.of2 (L := [some (vR 0), some (vI x1), some (vI x2), some (vI x3), some (vI x4), none, none]) pnX11 rfl rfl ?_
  refine wp_aload_n dX11_common_0 rfl rfl ?_
  refine wp_getR (b := 43) dX11_common_1 fX11_26 rfl sh0 (by decide) rfl ?_
  refine wp_iload_n dX11_common_4 rfl rfl ?_
  refine wp_inlV (d' := (d + 1)) (S := []) (as := [vI x1]) dX11_common_5 lX11_150 (by omega) sh43 rfl rfl (Nat.le_of_ble_eq_true rfl) ⟨Nat.le_refl _, Nat.le_refl _⟩ (Mt.of2 (L := [some (vR 43), some (vI x1)]) pnX7 rfl rfl ?_)
  refine wp_iload_n dX7_rowAt_0 rfl rfl ?_
  refine wp_if_lt (tgt := 21) dX7_rowAt_1 rfl (fun c1 => ?_) (fun c1 => ?_)
  ·
    refine wp_null dX7_rowAt_21 ?_
    refine wp_areturn dX7_rowAt_22 rfl ⟨rfl, rfl⟩ ?_
    show Wp _ _ _ _ _ 8 _ [vN] _ _ _ _ _
    refine wp_astoreN dX11_common_8 (by decide) rfl ?_
    refine wp_aload_n dX11_common_10 rfl rfl ?_
    refine wp_getR (b := 43) dX11_common_11 fX11_26 rfl sh0 (by decide) rfl ?_
    refine wp_iload_n dX11_common_14 rfl rfl ?_
    refine wp_inlV (d' := (d + 1)) (S := []) (as := [vI x2]) dX11_common_15 lX11_150 (by omega) sh43 rfl rfl (Nat.le_of_ble_eq_true rfl) ⟨Nat.le_refl _, Nat.le_refl _⟩ (Mt.of2 (L := [some (vR 43), some (vI x2)]) pnX7 rfl rfl ?_)
    refine wp_iload_n dX7_rowAt_0 rfl rfl ?_
    refine wp_if_lt (tgt := 21) dX7_rowAt_1 rfl (fun c2 => ?_) (fun c2 => ?_)
    ·
      refine wp_null dX7_rowAt_21 ?_
      refine wp_areturn dX7_rowAt_22 rfl ⟨rfl, rfl⟩ ?_
      show Wp _ _ _ _ _ 18 _ [vN] _ _ _ _ _
      refine wp_astoreN dX11_common_18 (by decide) rfl ?_
      refine wp_aloadN dX11_common_20 rfl ?_
      refine wp_ifnullN (tgt := 37) dX11_common_22 rfl ?_
      refine wp_iconst dX11_common_37 (by decide) ?_
      exact wp_ireturn dX11_common_38 rfl ⟨rfl, rfl⟩ ⟨rfl, ((h.1 c1).1 c2)⟩
    ·
      refine wp_iload_n dX7_rowAt_4 rfl rfl ?_
      refine wp_aload_n dX7_rowAt_5 rfl rfl ?_
      refine wp_getI dX7_rowAt_6 fX7_36 rfl sh43 (by decide) ?_
      refine wp_icmp_ge (tgt := 21) dX7_rowAt_9 rfl (fun c3 => ?_) (fun c3 => ?_)
      ·
        refine wp_null dX7_rowAt_21 ?_
        refine wp_areturn dX7_rowAt_22 rfl ⟨rfl, rfl⟩ ?_
        show Wp _ _ _ _ _ 18 _ [vN] _ _ _ _ _
        refine wp_astoreN dX11_common_18 (by decide) rfl ?_
        refine wp_aloadN dX11_common_20 rfl ?_
        refine wp_ifnullN (tgt := 37) dX11_common_22 rfl ?_
        refine wp_iconst dX11_common_37 (by decide) ?_
        exact wp_ireturn dX11_common_38 rfl ⟨rfl, rfl⟩ ⟨rfl, (((h.1 c1).2 c2).1 c3)⟩
      ·
        refine wp_aload_n dX7_rowAt_12 rfl rfl ?_
        refine wp_getR (b := 44) dX7_rowAt_13 fX7_11 rfl sh43 (by decide) rfl ?_
        refine wp_iload_n dX7_rowAt_16 rfl rfl ?_
        have g4 : (0 : Int) ≤ x2 ∧ x2 < (4 : Nat) := (((h.1 c1).2 c2).2 c3).1
        refine wp_aald (b := (49 + 2 * Int.toNat x2)) dX7_rowAt_17 sh44 (by decide) g4 (ap_get (b := 49) (s := 2) (n := 4) g4) ?_
        refine wp_goto (tgt := 22) dX7_rowAt_18 rfl ?_
        refine wp_areturn dX7_rowAt_22 rfl ⟨rfl, rfl⟩ ?_
        show Wp _ _ _ _ _ 18 _ [vR (49 + 2 * Int.toNat x2)] _ _ _ _ _
        refine wp_astore dX11_common_18 (by decide) rfl ?_
        refine wp_aloadN dX11_common_20 rfl ?_
        refine wp_ifnullN (tgt := 37) dX11_common_22 rfl ?_
        refine wp_iconst dX11_common_37 (by decide) ?_
        exact wp_ireturn dX11_common_38 rfl ⟨rfl, rfl⟩ ⟨rfl, (((h.1 c1).2 c2).2 c3).2⟩
  ·
    refine wp_iload_n dX7_rowAt_4 rfl rfl ?_
    refine wp_aload_n dX7_rowAt_5 rfl rfl ?_
    refine wp_getI dX7_rowAt_6 fX7_36 rfl sh43 (by decide) ?_
    refine wp_icmp_ge (tgt := 21) dX7_rowAt_9 rfl (fun c5 => ?_) (fun c5 => ?_)
    ·
      refine wp_null dX7_rowAt_21 ?_
      refine wp_areturn dX7_rowAt_22 rfl ⟨rfl, rfl⟩ ?_
      show Wp _ _ _ _ _ 8 _ [vN] _ _ _ _ _
      refine wp_astoreN dX11_common_8 (by decide) rfl ?_
      refine wp_aload_n dX11_common_10 rfl rfl ?_
      refine wp_getR (b := 43) dX11_common_11 fX11_26 rfl sh0 (by decide) rfl ?_
      refine wp_iload_n dX11_common_14 rfl rfl ?_
      refine wp_inlV (d' := (d + 1)) (S := []) (as := [vI x2]) dX11_common_15 lX11_150 (by omega) sh43 rfl rfl (Nat.le_of_ble_eq_true rfl) ⟨Nat.le_refl _, Nat.le_refl _⟩ (Mt.of2 (L := [some (vR 43), some (vI x2)]) pnX7 rfl rfl ?_)
      refine wp_iload_n dX7_rowAt_0 rfl rfl ?_
      refine wp_if_lt (tgt := 21) dX7_rowAt_1 rfl (fun c6 => ?_) (fun c6 => ?_)
      ·
        refine wp_null dX7_rowAt_21 ?_
        refine wp_areturn dX7_rowAt_22 rfl ⟨rfl, rfl⟩ ?_
        show Wp _ _ _ _ _ 18 _ [vN] _ _ _ _ _
        refine wp_astoreN dX11_common_18 (by decide) rfl ?_
        refine wp_aloadN dX11_common_20 rfl ?_
        refine wp_ifnullN (tgt := 37) dX11_common_22 rfl ?_
        refine wp_iconst dX11_common_37 (by decide) ?_
        exact wp_ireturn dX11_common_38 rfl ⟨rfl, rfl⟩ ⟨rfl, (((h.2 c1).1 c5).1 c6)⟩
      ·
        refine wp_iload_n dX7_rowAt_4 rfl rfl ?_
        refine wp_aload_n dX7_rowAt_5 rfl rfl ?_
        refine wp_getI dX7_rowAt_6 fX7_36 rfl sh43 (by decide) ?_
        refine wp_icmp_ge (tgt := 21) dX7_rowAt_9 rfl (fun c7 => ?_) (fun c7 => ?_)
        ·
          refine wp_null dX7_rowAt_21 ?_
          refine wp_areturn dX7_rowAt_22 rfl ⟨rfl, rfl⟩ ?_
          show Wp _ _ _ _ _ 18 _ [vN] _ _ _ _ _
          refine wp_astoreN dX11_common_18 (by decide) rfl ?_
          refine wp_aloadN dX11_common_20 rfl ?_
          refine wp_ifnullN (tgt := 37) dX11_common_22 rfl ?_
          refine wp_iconst dX11_common_37 (by decide) ?_
          exact wp_ireturn dX11_common_38 rfl ⟨rfl, rfl⟩ ⟨rfl, ((((h.2 c1).1 c5).2 c6).1 c7)⟩
        ·
          refine wp_aload_n dX7_rowAt_12 rfl rfl ?_
          refine wp_getR (b := 44) dX7_rowAt_13 fX7_11 rfl sh43 (by decide) rfl ?_
          refine wp_iload_n dX7_rowAt_16 rfl rfl ?_
          have g8 : (0 : Int) ≤ x2 ∧ x2 < (4 : Nat) := ((((h.2 c1).1 c5).2 c6).2 c7).1
          refine wp_aald (b := (49 + 2 * Int.toNat x2)) dX7_rowAt_17 sh44 (by decide) g8 (ap_get (b := 49) (s := 2) (n := 4) g8) ?_
          refine wp_goto (tgt := 22) dX7_rowAt_18 rfl ?_
          refine wp_areturn dX7_rowAt_22 rfl ⟨rfl, rfl⟩ ?_
          show Wp _ _ _ _ _ 18 _ [vR (49 + 2 * Int.toNat x2)] _ _ _ _ _
          refine wp_astore dX11_common_18 (by decide) rfl ?_
          refine wp_aloadN dX11_common_20 rfl ?_
          refine wp_ifnullN (tgt := 37) dX11_common_22 rfl ?_
          refine wp_iconst dX11_common_37 (by decide) ?_
          exact wp_ireturn dX11_common_38 rfl ⟨rfl, rfl⟩ ⟨rfl, ((((h.2 c1).1 c5).2 c6).2 c7).2⟩
    ·
      refine wp_aload_n dX7_rowAt_12 rfl rfl ?_
      refine wp_getR (b := 44) dX7_rowAt_13 fX7_11 rfl sh43 (by decide) rfl ?_
      refine wp_iload_n dX7_rowAt_16 rfl rfl ?_
      have g9 : (0 : Int) ≤ x1 ∧ x1 < (4 : Nat) := ((h.2 c1).2 c5).1
      refine wp_aald (b := (49 + 2 * Int.toNat x1)) dX7_rowAt_17 sh44 (by decide) g9 (ap_get (b := 49) (s := 2) (n := 4) g9) ?_
      refine wp_goto (tgt := 22) dX7_rowAt_18 rfl ?_
      refine wp_areturn dX7_rowAt_22 rfl ⟨rfl, rfl⟩ ?_
      show Wp _ _ _ _ _ 8 _ [vR (49 + 2 * Int.toNat x1)] _ _ _ _ _
      refine wp_astore dX11_common_8 (by decide) rfl ?_
      refine wp_aload_n dX11_common_10 rfl rfl ?_
      refine wp_getR (b := 43) dX11_common_11 fX11_26 rfl sh0 (by decide) rfl ?_
      refine wp_iload_n dX11_common_14 rfl rfl ?_
      refine wp_inlV (d' := (d + 1)) (S := []) (as := [vI x2]) dX11_common_15 lX11_150 (by omega) sh43 rfl rfl (Nat.le_of_ble_eq_true rfl) ⟨Nat.le_refl _, Nat.le_refl _⟩ (Mt.of2 (L := [some (vR 43), some (vI x2)]) pnX7 rfl rfl ?_)
      refine wp_iload_n dX7_rowAt_0 rfl rfl ?_
      refine wp_if_lt (tgt := 21) dX7_rowAt_1 rfl (fun c10 => ?_) (fun c10 => ?_)
      ·
        refine wp_null dX7_rowAt_21 ?_
        refine wp_areturn dX7_rowAt_22 rfl ⟨rfl, rfl⟩ ?_
        show Wp _ _ _ _ _ 18 _ [vN] _ _ _ _ _
        refine wp_astoreN dX11_common_18 (by decide) rfl ?_
        refine wp_aload dX11_common_20 rfl ?_
        refine wp_ifnull dX11_common_22 ?_
        refine wp_aload_n dX11_common_25 rfl rfl ?_
        refine wp_aloadN dX11_common_26 rfl ?_
        refine wp_iload_n dX11_common_28 rfl rfl ?_
        refine wp_iload dX11_common_29 rfl ?_
        refine wp_inlV (d' := (d + 1)) (S := []) (as := [vN, vI x3, vI x4]) dX11_common_31 lX11_263 (by omega) sh0 rfl rfl (Nat.le_of_ble_eq_true rfl) ⟨Nat.le_refl _, Nat.le_refl _⟩ (Mt.of2 (L := [some (vR 0), some vN, some (vI x3), some (vI x4)]) pnX11 rfl rfl ?_)
        refine wp_aload_nN dX11_isWindow_0 rfl rfl ?_
        refine wp_ifnullN (tgt := 25) dX11_isWindow_1 rfl ?_
        refine wp_iconst dX11_isWindow_25 (by decide) ?_
        refine wp_zreturn dX11_isWindow_26 rfl ⟨rfl, rfl⟩ (by decide) ?_
        show Wp _ _ _ _ _ 34 _ [vI 0] _ _ _ _ _
        refine wp_if_ne (tgt := 39) dX11_common_34 rfl (fun c11 => False.elim (by revert c11; decide)) (fun c11 => ?_)
        refine wp_iconst dX11_common_37 (by decide) ?_
        exact wp_ireturn dX11_common_38 rfl ⟨rfl, rfl⟩ ⟨rfl, (((h.2 c1).2 c5).2.1 c10)⟩
      ·
        refine wp_iload_n dX7_rowAt_4 rfl rfl ?_
        refine wp_aload_n dX7_rowAt_5 rfl rfl ?_
        refine wp_getI dX7_rowAt_6 fX7_36 rfl sh43 (by decide) ?_
        refine wp_icmp_ge (tgt := 21) dX7_rowAt_9 rfl (fun c12 => ?_) (fun c12 => ?_)
        ·
          refine wp_null dX7_rowAt_21 ?_
          refine wp_areturn dX7_rowAt_22 rfl ⟨rfl, rfl⟩ ?_
          show Wp _ _ _ _ _ 18 _ [vN] _ _ _ _ _
          refine wp_astoreN dX11_common_18 (by decide) rfl ?_
          refine wp_aload dX11_common_20 rfl ?_
          refine wp_ifnull dX11_common_22 ?_
          refine wp_aload_n dX11_common_25 rfl rfl ?_
          refine wp_aloadN dX11_common_26 rfl ?_
          refine wp_iload_n dX11_common_28 rfl rfl ?_
          refine wp_iload dX11_common_29 rfl ?_
          refine wp_inlV (d' := (d + 1)) (S := []) (as := [vN, vI x3, vI x4]) dX11_common_31 lX11_263 (by omega) sh0 rfl rfl (Nat.le_of_ble_eq_true rfl) ⟨Nat.le_refl _, Nat.le_refl _⟩ (Mt.of2 (L := [some (vR 0), some vN, some (vI x3), some (vI x4)]) pnX11 rfl rfl ?_)
          refine wp_aload_nN dX11_isWindow_0 rfl rfl ?_
          refine wp_ifnullN (tgt := 25) dX11_isWindow_1 rfl ?_
          refine wp_iconst dX11_isWindow_25 (by decide) ?_
          refine wp_zreturn dX11_isWindow_26 rfl ⟨rfl, rfl⟩ (by decide) ?_
          show Wp _ _ _ _ _ 34 _ [vI 0] _ _ _ _ _
          refine wp_if_ne (tgt := 39) dX11_common_34 rfl (fun c13 => False.elim (by revert c13; decide)) (fun c13 => ?_)
          refine wp_iconst dX11_common_37 (by decide) ?_
          exact wp_ireturn dX11_common_38 rfl ⟨rfl, rfl⟩ ⟨rfl, ((((h.2 c1).2 c5).2.2 c10).1 c12)⟩
        ·
          refine wp_aload_n dX7_rowAt_12 rfl rfl ?_
          refine wp_getR (b := 44) dX7_rowAt_13 fX7_11 rfl sh43 (by decide) rfl ?_
          refine wp_iload_n dX7_rowAt_16 rfl rfl ?_
          have g14 : (0 : Int) ≤ x2 ∧ x2 < (4 : Nat) := ((((h.2 c1).2 c5).2.2 c10).2 c12).1
          refine wp_aald (b := (49 + 2 * Int.toNat x2)) dX7_rowAt_17 sh44 (by decide) g14 (ap_get (b := 49) (s := 2) (n := 4) g14) ?_
          refine wp_goto (tgt := 22) dX7_rowAt_18 rfl ?_
          refine wp_areturn dX7_rowAt_22 rfl ⟨rfl, rfl⟩ ?_
          show Wp _ _ _ _ _ 18 _ [vR (49 + 2 * Int.toNat x2)] _ _ _ _ _
          refine wp_astore dX11_common_18 (by decide) rfl ?_
          refine wp_aload dX11_common_20 rfl ?_
          refine wp_ifnull dX11_common_22 ?_
          refine wp_aload_n dX11_common_25 rfl rfl ?_
          refine wp_aload dX11_common_26 rfl ?_
          refine wp_iload_n dX11_common_28 rfl rfl ?_
          refine wp_iload dX11_common_29 rfl ?_
          refine wp_inlV (d' := (d + 1)) (S := []) (as := [vR (49 + 2 * Int.toNat x2), vI x3, vI x4]) dX11_common_31 lX11_263 (by omega) sh0 rfl rfl (Nat.le_of_ble_eq_true rfl) ⟨Nat.le_refl _, Nat.le_refl _⟩ (Mt.of2 (L := [some (vR 0), some (vR (49 + 2 * Int.toNat x2)), some (vI x3), some (vI x4)]) pnX11 rfl rfl ?_)
          refine wp_aload_n dX11_isWindow_0 rfl rfl ?_
          refine wp_ifnull dX11_isWindow_1 ?_
          refine wp_iload_n dX11_isWindow_4 rfl rfl ?_
          refine wp_if_lt (tgt := 25) dX11_isWindow_5 rfl (fun c15 => ?_) (fun c15 => ?_)
          ·
            refine wp_iconst dX11_isWindow_25 (by decide) ?_
            refine wp_zreturn dX11_isWindow_26 rfl ⟨rfl, rfl⟩ (by decide) ?_
            show Wp _ _ _ _ _ 34 _ [vI 0] _ _ _ _ _
            refine wp_if_ne (tgt := 39) dX11_common_34 rfl (fun c16 => False.elim (by revert c16; decide)) (fun c16 => ?_)
            refine wp_iconst dX11_common_37 (by decide) ?_
            exact wp_ireturn dX11_common_38 rfl ⟨rfl, rfl⟩ ⟨rfl, (((((h.2 c1).2 c5).2.2 c10).2 c12).2.1 c15)⟩
          ·
            refine wp_iload_n dX11_isWindow_8 rfl rfl ?_
            refine wp_iload_n dX11_isWindow_9 rfl rfl ?_
            refine wp_icmp_gt (tgt := 25) dX11_isWindow_10 rfl (fun c17 => ?_) (fun c17 => ?_)
            ·
              refine wp_iconst dX11_isWindow_25 (by decide) ?_
              refine wp_zreturn dX11_isWindow_26 rfl ⟨rfl, rfl⟩ (by decide) ?_
              show Wp _ _ _ _ _ 34 _ [vI 0] _ _ _ _ _
              refine wp_if_ne (tgt := 39) dX11_common_34 rfl (fun c18 => False.elim (by revert c18; decide)) (fun c18 => ?_)
              refine wp_iconst dX11_common_37 (by decide) ?_
              exact wp_ireturn dX11_common_38 rfl ⟨rfl, rfl⟩ ⟨rfl, ((((((h.2 c1).2 c5).2.2 c10).2 c12).2.2 c15).1 c17)⟩
            ·
              refine wp_iload_n dX11_isWindow_13 rfl rfl ?_
              refine wp_aload_n dX11_isWindow_14 rfl rfl ?_
              refine wp_getI dX11_isWindow_15 fX11_157 rfl (obj44 g14).1 (by decide) ?_
              refine wp_icmp_gt (tgt := 25) dX11_isWindow_18 rfl (fun c19 => ?_) (fun c19 => ?_)
              ·
                refine wp_iconst dX11_isWindow_25 (by decide) ?_
                refine wp_zreturn dX11_isWindow_26 rfl ⟨rfl, rfl⟩ (by decide) ?_
                show Wp _ _ _ _ _ 34 _ [vI 0] _ _ _ _ _
                refine wp_if_ne (tgt := 39) dX11_common_34 rfl (fun c20 => False.elim (by revert c20; decide)) (fun c20 => ?_)
                refine wp_iconst dX11_common_37 (by decide) ?_
                exact wp_ireturn dX11_common_38 rfl ⟨rfl, rfl⟩ ⟨rfl, (((((((h.2 c1).2 c5).2.2 c10).2 c12).2.2 c15).2 c17).1 c19)⟩
              ·
                refine wp_iconst dX11_isWindow_21 (by decide) ?_
                refine wp_goto (tgt := 26) dX11_isWindow_22 rfl ?_
                refine wp_zreturn dX11_isWindow_26 rfl ⟨rfl, rfl⟩ (by decide) ?_
                show Wp _ _ _ _ _ 34 _ [vI 1] _ _ _ _ _
                refine wp_if_ne (tgt := 39) dX11_common_34 rfl (fun c21 => ?_) (fun c21 => False.elim (by revert c21; decide))
                refine wp_aload_n dX11_common_39 rfl rfl ?_
                refine wp_aload dX11_common_40 rfl ?_
                refine wp_aload dX11_common_42 rfl ?_
                refine wp_inlV (d' := (d + 1)) (S := []) (as := [vR (49 + 2 * Int.toNat x1), vR (49 + 2 * Int.toNat x2)]) dX11_common_44 lX11_308 (by omega) sh0 rfl rfl (Nat.le_of_ble_eq_true rfl) ⟨Nat.le_refl _, Nat.le_refl _⟩ (Mt.of2 (L := [some (vR 0), some (vR (49 + 2 * Int.toNat x1)), some (vR (49 + 2 * Int.toNat x2))]) pnX11 rfl rfl ?_)
                refine wp_aload_n dX11_fillCommon_0 rfl rfl ?_
                refine wp_getR (b := 151) dX11_fillCommon_1 fX11_70 rfl sh0 (by decide) rfl ?_
                refine wp_aload_n dX11_fillCommon_4 rfl rfl ?_
                refine wp_aload_n dX11_fillCommon_5 rfl rfl ?_
                refine wp_getR (b := 135) dX11_fillCommon_6 fX11_47 rfl sh0 (by decide) rfl ?_
                refine wp_callV (S := []) (as := [vR (49 + 2 * Int.toNat x1), vR 135]) dX11_fillCommon_9 lX11_267 ((((((((h.2 c1).2 c5).2.2 c10).2 c12).2.2 c15).2 c17).2 c19)) (by omega) sh151 rfl rfl (Nat.le_of_ble_eq_true rfl) ⟨Nat.le_refl _, Nat.le_refl _⟩ ?_
                rintro _ _ V22 ⟨rfl, rfl, q22⟩
                show Wp _ _ _ _ _ 12 _ [] _ _ _ _ _
                refine wp_aload_n dX11_fillCommon_12 rfl rfl ?_
                refine wp_getR (b := 146) dX11_fillCommon_13 fX11_66 rfl sh0 (by decide) rfl ?_
                refine wp_aload_n dX11_fillCommon_16 rfl rfl ?_
                refine wp_aload_n dX11_fillCommon_17 rfl rfl ?_
                refine wp_getR (b := 135) dX11_fillCommon_18 fX11_47 rfl sh0 (by decide) rfl ?_
                refine wp_callV (S := []) (as := [vR (49 + 2 * Int.toNat x2), vR 135]) dX11_fillCommon_21 lX11_267 (q22) (by omega) sh146 rfl rfl (Nat.le_of_ble_eq_true rfl) ⟨Nat.le_refl _, Nat.le_refl _⟩ ?_
                rintro _ _ V23 ⟨rfl, rfl, q23⟩
                show Wp _ _ _ _ _ 24 _ [] _ _ _ _ _
                refine wp_aload_n dX11_fillCommon_24 rfl rfl ?_
                refine wp_getR (b := 156) dX11_fillCommon_25 fX11_76 rfl sh0 (by decide) rfl ?_
                refine wp_aload_n dX11_fillCommon_28 rfl rfl ?_
                refine wp_getR (b := 151) dX11_fillCommon_29 fX11_70 rfl sh0 (by decide) rfl ?_
                refine wp_aload_n dX11_fillCommon_32 rfl rfl ?_
                refine wp_getR (b := 146) dX11_fillCommon_33 fX11_66 rfl sh0 (by decide) rfl ?_
                refine wp_callV (S := []) (as := [vR 151, vR 146]) dX11_fillCommon_36 lX11_315 (q23) (by omega) sh156 rfl rfl (Nat.le_of_ble_eq_true rfl) ⟨Nat.le_refl _, Nat.le_refl _⟩ ?_
                rintro _ _ V24 ⟨rfl, rfl, q24⟩
                show Wp _ _ _ _ _ 39 _ [] _ _ _ _ _
                refine wp_return dX11_fillCommon_39 rfl ⟨rfl, rfl⟩ ?_
                show Wp _ _ _ _ _ 47 _ [] _ _ _ _ _
                refine wp_aload_n dX11_common_47 rfl rfl ?_
                refine wp_getR (b := 156) dX11_common_48 fX11_76 rfl sh0 (by decide) rfl ?_
                refine wp_iload_n dX11_common_51 rfl rfl ?_
                refine wp_iload dX11_common_52 rfl ?_
                refine wp_callV (S := []) (as := [vI x3, vI x4]) dX11_common_54 lX11_312 (q24) (by omega) sh156 rfl rfl (Nat.le_of_ble_eq_true rfl) ⟨Nat.le_refl _, Nat.le_refl _⟩ ?_
                rintro _ _ V25 ⟨rfl, z25, rfl, q25⟩
                show Wp _ _ _ _ _ 57 _ [vI z25] _ _ _ _ _
                exact wp_ireturn dX11_common_57 rfl ⟨rfl, rfl⟩ ⟨rfl, q25⟩
set_option maxHeartbeats 4000000 in
set_option maxRecDepth 10000 in
theorem sX11_meets {K : KK} {d : Nat} {V : Mem} {Q : Option AV → Mem → Prop} (x1 : Int) (x2 : Int) (x3 : Int) (h : ((x1 < 0 → ((x2 < 0 → Q (some (vI (-1))) V) ∧ (¬ (x2 < 0) → (((V 43 5) ≤ x2 → Q (some (vI (-1))) V) ∧ (¬ ((V 43 5) ≤ x2) → (((0 : Int) ≤ x2 ∧ x2 < (4 : Nat)) ∧ Q (some (vI (-1))) V)))))) ∧ (¬ (x1 < 0) → (((V 43 5) ≤ x1 → ((x2 < 0 → Q (some (vI (-1))) V) ∧ (¬ (x2 < 0) → (((V 43 5) ≤ x2 → Q (some (vI (-1))) V) ∧ (¬ ((V 43 5) ≤ x2) → (((0 : Int) ≤ x2 ∧ x2 < (4 : Nat)) ∧ Q (some (vI (-1))) V)))))) ∧ (¬ ((V 43 5) ≤ x1) → (((0 : Int) ≤ x1 ∧ x1 < (4 : Nat)) ∧ ((x2 < 0 → Q (some (vI (-1))) V) ∧ (¬ (x2 < 0) → (((V 43 5) ≤ x2 → Q (some (vI (-1))) V) ∧ (¬ ((V 43 5) ≤ x2) → (((0 : Int) ≤ x2 ∧ x2 < (4 : Nat)) ∧ Mf K (d + 1) mX6_hasPlace [vR (49 + 2 * Int.toNat x2), vI x3] V (fun r V13 => ∃ z13, r = some (vI z13) ∧ ((¬ z13 = 0 → Mf K d mX1_load [vR 151, vR (49 + 2 * Int.toNat x1), vR 135] V13 (fun r V15 => r = none ∧ Mf K d mX1_load [vR 146, vR (49 + 2 * Int.toNat x2), vR 135] V15 (fun r V16 => r = none ∧ Mf K d mX10_fillCommon [vR 156, vR 151, vR 146] V16 (fun r V17 => r = none ∧ Mf K (d + 1) mX10_strandFrom [vR 156, vI x3] V17 (fun r V18 => ∃ z18, r = some (vI z18) ∧ Q (some (vI z18)) V18))))) ∧ (z13 = 0 → Q (some (vI (-1))) V13)))))))))))))) : Mf K (d + 2) mX11_meets [vR 0, vI x1, vI x2, vI x3] V Q := by
  refine Mt.of2 (L := [some (vR 0), some (vI x1), some (vI x2), some (vI x3), none, none]) pnX11 rfl rfl ?_
  refine wp_aload_n dX11_meets_0 rfl rfl ?_
  refine wp_getR (b := 43) dX11_meets_1 fX11_26 rfl sh0 (by decide) rfl ?_
  refine wp_iload_n dX11_meets_4 rfl rfl ?_
  refine wp_inlV (d' := (d + 1)) (S := []) (as := [vI x1]) dX11_meets_5 lX11_150 (by omega) sh43 rfl rfl (Nat.le_of_ble_eq_true rfl) ⟨Nat.le_refl _, Nat.le_refl _⟩ (Mt.of2 (L := [some (vR 43), some (vI x1)]) pnX7 rfl rfl ?_)
  refine wp_iload_n dX7_rowAt_0 rfl rfl ?_
  refine wp_if_lt (tgt := 21) dX7_rowAt_1 rfl (fun c1 => ?_) (fun c1 => ?_)
  ·
    refine wp_null dX7_rowAt_21 ?_
    refine wp_areturn dX7_rowAt_22 rfl ⟨rfl, rfl⟩ ?_
    show Wp _ _ _ _ _ 8 _ [vN] _ _ _ _ _
    refine wp_astoreN dX11_meets_8 (by decide) rfl ?_
    refine wp_aload_n dX11_meets_10 rfl rfl ?_
    refine wp_getR (b := 43) dX11_meets_11 fX11_26 rfl sh0 (by decide) rfl ?_
    refine wp_iload_n dX11_meets_14 rfl rfl ?_
    refine wp_inlV (d' := (d + 1)) (S := []) (as := [vI x2]) dX11_meets_15 lX11_150 (by omega) sh43 rfl rfl (Nat.le_of_ble_eq_true rfl) ⟨Nat.le_refl _, Nat.le_refl _⟩ (Mt.of2 (L := [some (vR 43), some (vI x2)]) pnX7 rfl rfl ?_)
    refine wp_iload_n dX7_rowAt_0 rfl rfl ?_
    refine wp_if_lt (tgt := 21) dX7_rowAt_1 rfl (fun c2 => ?_) (fun c2 => ?_)
    ·
      refine wp_null dX7_rowAt_21 ?_
      refine wp_areturn dX7_rowAt_22 rfl ⟨rfl, rfl⟩ ?_
      show Wp _ _ _ _ _ 18 _ [vN] _ _ _ _ _
      refine wp_astoreN dX11_meets_18 (by decide) rfl ?_
      refine wp_aloadN dX11_meets_20 rfl ?_
      refine wp_ifnullN (tgt := 39) dX11_meets_22 rfl ?_
      refine wp_iconst dX11_meets_39 (by decide) ?_
      exact wp_ireturn dX11_meets_40 rfl ⟨rfl, rfl⟩ ⟨rfl, ((h.1 c1).1 c2)⟩
    ·
      refine wp_iload_n dX7_rowAt_4 rfl rfl ?_
      refine wp_aload_n dX7_rowAt_5 rfl rfl ?_
      refine wp_getI dX7_rowAt_6 fX7_36 rfl sh43 (by decide) ?_
      refine wp_icmp_ge (tgt := 21) dX7_rowAt_9 rfl (fun c3 => ?_) (fun c3 => ?_)
      ·
        refine wp_null dX7_rowAt_21 ?_
        refine wp_areturn dX7_rowAt_22 rfl ⟨rfl, rfl⟩ ?_
        show Wp _ _ _ _ _ 18 _ [vN] _ _ _ _ _
        refine wp_astoreN dX11_meets_18 (by decide) rfl ?_
        refine wp_aloadN dX11_meets_20 rfl ?_
        refine wp_ifnullN (tgt := 39) dX11_meets_22 rfl ?_
        refine wp_iconst dX11_meets_39 (by decide) ?_
        exact wp_ireturn dX11_meets_40 rfl ⟨rfl, rfl⟩ ⟨rfl, (((h.1 c1).2 c2).1 c3)⟩
      ·
        refine wp_aload_n dX7_rowAt_12 rfl rfl ?_
        refine wp_getR (b := 44) dX7_rowAt_13 fX7_11 rfl sh43 (by decide) rfl ?_
        refine wp_iload_n dX7_rowAt_16 rfl rfl ?_
        have g4 : (0 : Int) ≤ x2 ∧ x2 < (4 : Nat) := (((h.1 c1).2 c2).2 c3).1
        refine wp_aald (b := (49 + 2 * Int.toNat x2)) dX7_rowAt_17 sh44 (by decide) g4 (ap_get (b := 49) (s := 2) (n := 4) g4) ?_
        refine wp_goto (tgt := 22) dX7_rowAt_18 rfl ?_
        refine wp_areturn dX7_rowAt_22 rfl ⟨rfl, rfl⟩ ?_
        show Wp _ _ _ _ _ 18 _ [vR (49 + 2 * Int.toNat x2)] _ _ _ _ _
        refine wp_astore dX11_meets_18 (by decide) rfl ?_
        refine wp_aloadN dX11_meets_20 rfl ?_
        refine wp_ifnullN (tgt := 39) dX11_meets_22 rfl ?_
        refine wp_iconst dX11_meets_39 (by decide) ?_
        exact wp_ireturn dX11_meets_40 rfl ⟨rfl, rfl⟩ ⟨rfl, (((h.1 c1).2 c2).2 c3).2⟩
  ·
    refine wp_iload_n dX7_rowAt_4 rfl rfl ?_
    refine wp_aload_n dX7_rowAt_5 rfl rfl ?_
    refine wp_getI dX7_rowAt_6 fX7_36 rfl sh43 (by decide) ?_
    refine wp_icmp_ge (tgt := 21) dX7_rowAt_9 rfl (fun c5 => ?_) (fun c5 => ?_)
    ·
      refine wp_null dX7_rowAt_21 ?_
      refine wp_areturn dX7_rowAt_22 rfl ⟨rfl, rfl⟩ ?_
      show Wp _ _ _ _ _ 8 _ [vN] _ _ _ _ _
      refine wp_astoreN dX11_meets_8 (by decide) rfl ?_
      refine wp_aload_n dX11_meets_10 rfl rfl ?_
      refine wp_getR (b := 43) dX11_meets_11 fX11_26 rfl sh0 (by decide) rfl ?_
      refine wp_iload_n dX11_meets_14 rfl rfl ?_
      refine wp_inlV (d' := (d + 1)) (S := []) (as := [vI x2]) dX11_meets_15 lX11_150 (by omega) sh43 rfl rfl (Nat.le_of_ble_eq_true rfl) ⟨Nat.le_refl _, Nat.le_refl _⟩ (Mt.of2 (L := [some (vR 43), some (vI x2)]) pnX7 rfl rfl ?_)
      refine wp_iload_n dX7_rowAt_0 rfl rfl ?_
      refine wp_if_lt (tgt := 21) dX7_rowAt_1 rfl (fun c6 => ?_) (fun c6 => ?_)
      ·
        refine wp_null dX7_rowAt_21 ?_
        refine wp_areturn dX7_rowAt_22 rfl ⟨rfl, rfl⟩ ?_
        show Wp _ _ _ _ _ 18 _ [vN] _ _ _ _ _
        refine wp_astoreN dX11_meets_18 (by decide) rfl ?_
        refine wp_aloadN dX11_meets_20 rfl ?_
        refine wp_ifnullN (tgt := 39) dX11_meets_22 rfl ?_
        refine wp_iconst dX11_meets_39 (by decide) ?_
        exact wp_ireturn dX11_meets_40 rfl ⟨rfl, rfl⟩ ⟨rfl, (((h.2 c1).1 c5).1 c6)⟩
      ·
        refine wp_iload_n dX7_rowAt_4 rfl rfl ?_
        refine wp_aload_n dX7_rowAt_5 rfl rfl ?_
        refine wp_getI dX7_rowAt_6 fX7_36 rfl sh43 (by decide) ?_
        refine wp_icmp_ge (tgt := 21) dX7_rowAt_9 rfl (fun c7 => ?_) (fun c7 => ?_)
        ·
          refine wp_null dX7_rowAt_21 ?_
          refine wp_areturn dX7_rowAt_22 rfl ⟨rfl, rfl⟩ ?_
          show Wp _ _ _ _ _ 18 _ [vN] _ _ _ _ _
          refine wp_astoreN dX11_meets_18 (by decide) rfl ?_
          refine wp_aloadN dX11_meets_20 rfl ?_
          refine wp_ifnullN (tgt := 39) dX11_meets_22 rfl ?_
          refine wp_iconst dX11_meets_39 (by decide) ?_
          exact wp_ireturn dX11_meets_40 rfl ⟨rfl, rfl⟩ ⟨rfl, ((((h.2 c1).1 c5).2 c6).1 c7)⟩
        ·
          refine wp_aload_n dX7_rowAt_12 rfl rfl ?_
          refine wp_getR (b := 44) dX7_rowAt_13 fX7_11 rfl sh43 (by decide) rfl ?_
          refine wp_iload_n dX7_rowAt_16 rfl rfl ?_
          have g8 : (0 : Int) ≤ x2 ∧ x2 < (4 : Nat) := ((((h.2 c1).1 c5).2 c6).2 c7).1
          refine wp_aald (b := (49 + 2 * Int.toNat x2)) dX7_rowAt_17 sh44 (by decide) g8 (ap_get (b := 49) (s := 2) (n := 4) g8) ?_
          refine wp_goto (tgt := 22) dX7_rowAt_18 rfl ?_
          refine wp_areturn dX7_rowAt_22 rfl ⟨rfl, rfl⟩ ?_
          show Wp _ _ _ _ _ 18 _ [vR (49 + 2 * Int.toNat x2)] _ _ _ _ _
          refine wp_astore dX11_meets_18 (by decide) rfl ?_
          refine wp_aloadN dX11_meets_20 rfl ?_
          refine wp_ifnullN (tgt := 39) dX11_meets_22 rfl ?_
          refine wp_iconst dX11_meets_39 (by decide) ?_
          exact wp_ireturn dX11_meets_40 rfl ⟨rfl, rfl⟩ ⟨rfl, ((((h.2 c1).1 c5).2 c6).2 c7).2⟩
    ·
      refine wp_aload_n dX7_rowAt_12 rfl rfl ?_
      refine wp_getR (b := 44) dX7_rowAt_13 fX7_11 rfl sh43 (by decide) rfl ?_
      refine wp_iload_n dX7_rowAt_16 rfl rfl ?_
      have g9 : (0 : Int) ≤ x1 ∧ x1 < (4 : Nat) := ((h.2 c1).2 c5).1
      refine wp_aald (b := (49 + 2 * Int.toNat x1)) dX7_rowAt_17 sh44 (by decide) g9 (ap_get (b := 49) (s := 2) (n := 4) g9) ?_
      refine wp_goto (tgt := 22) dX7_rowAt_18 rfl ?_
      refine wp_areturn dX7_rowAt_22 rfl ⟨rfl, rfl⟩ ?_
      show Wp _ _ _ _ _ 8 _ [vR (49 + 2 * Int.toNat x1)] _ _ _ _ _
      refine wp_astore dX11_meets_8 (by decide) rfl ?_
      refine wp_aload_n dX11_meets_10 rfl rfl ?_
      refine wp_getR (b := 43) dX11_meets_11 fX11_26 rfl sh0 (by decide) rfl ?_
      refine wp_iload_n dX11_meets_14 rfl rfl ?_
      refine wp_inlV (d' := (d + 1)) (S := []) (as := [vI x2]) dX11_meets_15 lX11_150 (by omega) sh43 rfl rfl (Nat.le_of_ble_eq_true rfl) ⟨Nat.le_refl _, Nat.le_refl _⟩ (Mt.of2 (L := [some (vR 43), some (vI x2)]) pnX7 rfl rfl ?_)
      refine wp_iload_n dX7_rowAt_0 rfl rfl ?_
      refine wp_if_lt (tgt := 21) dX7_rowAt_1 rfl (fun c10 => ?_) (fun c10 => ?_)
      ·
        refine wp_null dX7_rowAt_21 ?_
        refine wp_areturn dX7_rowAt_22 rfl ⟨rfl, rfl⟩ ?_
        show Wp _ _ _ _ _ 18 _ [vN] _ _ _ _ _
        refine wp_astoreN dX11_meets_18 (by decide) rfl ?_
        refine wp_aload dX11_meets_20 rfl ?_
        refine wp_ifnull dX11_meets_22 ?_
        refine wp_aloadN dX11_meets_25 rfl ?_
        refine wp_ifnullN (tgt := 39) dX11_meets_27 rfl ?_
        refine wp_iconst dX11_meets_39 (by decide) ?_
        exact wp_ireturn dX11_meets_40 rfl ⟨rfl, rfl⟩ ⟨rfl, (((h.2 c1).2 c5).2.1 c10)⟩
      ·
        refine wp_iload_n dX7_rowAt_4 rfl rfl ?_
        refine wp_aload_n dX7_rowAt_5 rfl rfl ?_
        refine wp_getI dX7_rowAt_6 fX7_36 rfl sh43 (by decide) ?_
        refine wp_icmp_ge (tgt := 21) dX7_rowAt_9 rfl (fun c11 => ?_) (fun c11 => ?_)
        ·
          refine wp_null dX7_rowAt_21 ?_
          refine wp_areturn dX7_rowAt_22 rfl ⟨rfl, rfl⟩ ?_
          show Wp _ _ _ _ _ 18 _ [vN] _ _ _ _ _
          refine wp_astoreN dX11_meets_18 (by decide) rfl ?_
          refine wp_aload dX11_meets_20 rfl ?_
          refine wp_ifnull dX11_meets_22 ?_
          refine wp_aloadN dX11_meets_25 rfl ?_
          refine wp_ifnullN (tgt := 39) dX11_meets_27 rfl ?_
          refine wp_iconst dX11_meets_39 (by decide) ?_
          exact wp_ireturn dX11_meets_40 rfl ⟨rfl, rfl⟩ ⟨rfl, ((((h.2 c1).2 c5).2.2 c10).1 c11)⟩
        ·
          refine wp_aload_n dX7_rowAt_12 rfl rfl ?_
          refine wp_getR (b := 44) dX7_rowAt_13 fX7_11 rfl sh43 (by decide) rfl ?_
          refine wp_iload_n dX7_rowAt_16 rfl rfl ?_
          have g12 : (0 : Int) ≤ x2 ∧ x2 < (4 : Nat) := ((((h.2 c1).2 c5).2.2 c10).2 c11).1
          refine wp_aald (b := (49 + 2 * Int.toNat x2)) dX7_rowAt_17 sh44 (by decide) g12 (ap_get (b := 49) (s := 2) (n := 4) g12) ?_
          refine wp_goto (tgt := 22) dX7_rowAt_18 rfl ?_
          refine wp_areturn dX7_rowAt_22 rfl ⟨rfl, rfl⟩ ?_
          show Wp _ _ _ _ _ 18 _ [vR (49 + 2 * Int.toNat x2)] _ _ _ _ _
          refine wp_astore dX11_meets_18 (by decide) rfl ?_
          refine wp_aload dX11_meets_20 rfl ?_
          refine wp_ifnull dX11_meets_22 ?_
          refine wp_aload dX11_meets_25 rfl ?_
          refine wp_ifnull dX11_meets_27 ?_
          refine wp_aload dX11_meets_30 rfl ?_
          refine wp_iload_n dX11_meets_32 rfl rfl ?_
          refine wp_callV (S := []) (as := [vI x3]) dX11_meets_33 lX11_160 (((((h.2 c1).2 c5).2.2 c10).2 c11).2) (by omega) (obj44 g12).1 rfl rfl (Nat.le_of_ble_eq_true rfl) ⟨Nat.le_refl _, Nat.le_refl _⟩ ?_
          rintro _ _ V13 ⟨rfl, z13, rfl, q13⟩
          show Wp _ _ _ _ _ 36 _ [vI z13] _ _ _ _ _
          refine wp_if_ne (tgt := 41) dX11_meets_36 rfl (fun c14 => ?_) (fun c14 => ?_)
          ·
            refine wp_aload_n dX11_meets_41 rfl rfl ?_
            refine wp_aload dX11_meets_42 rfl ?_
            refine wp_aload dX11_meets_44 rfl ?_
            refine wp_inlV (d' := (d + 1)) (S := []) (as := [vR (49 + 2 * Int.toNat x1), vR (49 + 2 * Int.toNat x2)]) dX11_meets_46 lX11_308 (by omega) sh0 rfl rfl (Nat.le_of_ble_eq_true rfl) ⟨Nat.le_refl _, Nat.le_refl _⟩ (Mt.of2 (L := [some (vR 0), some (vR (49 + 2 * Int.toNat x1)), some (vR (49 + 2 * Int.toNat x2))]) pnX11 rfl rfl ?_)
            refine wp_aload_n dX11_fillCommon_0 rfl rfl ?_
            refine wp_getR (b := 151) dX11_fillCommon_1 fX11_70 rfl sh0 (by decide) rfl ?_
            refine wp_aload_n dX11_fillCommon_4 rfl rfl ?_
            refine wp_aload_n dX11_fillCommon_5 rfl rfl ?_
            refine wp_getR (b := 135) dX11_fillCommon_6 fX11_47 rfl sh0 (by decide) rfl ?_
            refine wp_callV (S := []) (as := [vR (49 + 2 * Int.toNat x1), vR 135]) dX11_fillCommon_9 lX11_267 ((q13.1 c14)) (by omega) sh151 rfl rfl (Nat.le_of_ble_eq_true rfl) ⟨Nat.le_refl _, Nat.le_refl _⟩ ?_
            rintro _ _ V15 ⟨rfl, rfl, q15⟩
            show Wp _ _ _ _ _ 12 _ [] _ _ _ _ _
            refine wp_aload_n dX11_fillCommon_12 rfl rfl ?_
            refine wp_getR (b := 146) dX11_fillCommon_13 fX11_66 rfl sh0 (by decide) rfl ?_
            refine wp_aload_n dX11_fillCommon_16 rfl rfl ?_
            refine wp_aload_n dX11_fillCommon_17 rfl rfl ?_
            refine wp_getR (b := 135) dX11_fillCommon_18 fX11_47 rfl sh0 (by decide) rfl ?_
            refine wp_callV (S := []) (as := [vR (49 + 2 * Int.toNat x2), vR 135]) dX11_fillCommon_21 lX11_267 (q15) (by omega) sh146 rfl rfl (Nat.le_of_ble_eq_true rfl) ⟨Nat.le_refl _, Nat.le_refl _⟩ ?_
            rintro _ _ V16 ⟨rfl, rfl, q16⟩
            show Wp _ _ _ _ _ 24 _ [] _ _ _ _ _
            refine wp_aload_n dX11_fillCommon_24 rfl rfl ?_
            refine wp_getR (b := 156) dX11_fillCommon_25 fX11_76 rfl sh0 (by decide) rfl ?_
            refine wp_aload_n dX11_fillCommon_28 rfl rfl ?_
            refine wp_getR (b := 151) dX11_fillCommon_29 fX11_70 rfl sh0 (by decide) rfl ?_
            refine wp_aload_n dX11_fillCommon_32 rfl rfl ?_
            refine wp_getR (b := 146) dX11_fillCommon_33 fX11_66 rfl sh0 (by decide) rfl ?_
            refine wp_callV (S := []) (as := [vR 151, vR 146]) dX11_fillCommon_36 lX11_315 (q16) (by omega) sh156 rfl rfl (Nat.le_of_ble_eq_true rfl) ⟨Nat.le_refl _, Nat.le_refl _⟩ ?_
            rintro _ _ V17 ⟨rfl, rfl, q17⟩
            show Wp _ _ _ _ _ 39 _ [] _ _ _ _ _
            refine wp_return dX11_fillCommon_39 rfl ⟨rfl, rfl⟩ ?_
            show Wp _ _ _ _ _ 49 _ [] _ _ _ _ _
            refine wp_aload_n dX11_meets_49 rfl rfl ?_
            refine wp_getR (b := 156) dX11_meets_50 fX11_76 rfl sh0 (by decide) rfl ?_
            refine wp_iload_n dX11_meets_53 rfl rfl ?_
            refine wp_callV (S := []) (as := [vI x3]) dX11_meets_54 lX11_289 (q17) (by omega) sh156 rfl rfl (Nat.le_of_ble_eq_true rfl) ⟨Nat.le_refl _, Nat.le_refl _⟩ ?_
            rintro _ _ V18 ⟨rfl, z18, rfl, q18⟩
            show Wp _ _ _ _ _ 57 _ [vI z18] _ _ _ _ _
            exact wp_ireturn dX11_meets_57 rfl ⟨rfl, rfl⟩ ⟨rfl, q18⟩
          ·
            refine wp_iconst dX11_meets_39 (by decide) ?_
            exact wp_ireturn dX11_meets_40 rfl ⟨rfl, rfl⟩ ⟨rfl, (q13.2 c14)⟩
set_option maxHeartbeats 4000000 in
set_option maxRecDepth 10000 in
theorem sX11_fillCommon {K : KK} {d : Nat} {V : Mem} {Q : Option AV → Mem → Prop} (a1 : Nat) (a2 : Nat) (h1 : IsRow a1) (h2 : IsRow a2) (h : Mf K d mX1_load [vR 151, vR a1, vR 135] V (fun r V1 => r = none ∧ Mf K d mX1_load [vR 146, vR a2, vR 135] V1 (fun r V2 => r = none ∧ Mf K d mX10_fillCommon [vR 156, vR 151, vR 146] V2 (fun r V3 => r = none ∧ Q none V3)))) : Mf K (d + 1) mX11_fillCommon [vR 0, vR a1, vR a2] V Q := by
  refine Mt.of2 (L := [some (vR 0), some (vR a1), some (vR a2)]) pnX11 rfl rfl ?_
  refine wp_aload_n dX11_fillCommon_0 rfl rfl ?_
  refine wp_getR (b := 151) dX11_fillCommon_1 fX11_70 rfl sh0 (by decide) rfl ?_
  refine wp_aload_n dX11_fillCommon_4 rfl rfl ?_
  refine wp_aload_n dX11_fillCommon_5 rfl rfl ?_
  refine wp_getR (b := 135) dX11_fillCommon_6 fX11_47 rfl sh0 (by decide) rfl ?_
  refine wp_callV (S := []) (as := [vR a1, vR 135]) dX11_fillCommon_9 lX11_267 (h) (by omega) sh151 rfl rfl (Nat.le_of_ble_eq_true rfl) ⟨Nat.le_refl _, Nat.le_refl _⟩ ?_
  rintro _ _ V1 ⟨rfl, rfl, q1⟩
  show Wp _ _ _ _ _ 12 _ [] _ _ _ _ _
  refine wp_aload_n dX11_fillCommon_12 rfl rfl ?_
  refine wp_getR (b := 146) dX11_fillCommon_13 fX11_66 rfl sh0 (by decide) rfl ?_
  refine wp_aload_n dX11_fillCommon_16 rfl rfl ?_
  refine wp_aload_n dX11_fillCommon_17 rfl rfl ?_
  refine wp_getR (b := 135) dX11_fillCommon_18 fX11_47 rfl sh0 (by decide) rfl ?_
  refine wp_callV (S := []) (as := [vR a2, vR 135]) dX11_fillCommon_21 lX11_267 (q1) (by omega) sh146 rfl rfl (Nat.le_of_ble_eq_true rfl) ⟨Nat.le_refl _, Nat.le_refl _⟩ ?_
  rintro _ _ V2 ⟨rfl, rfl, q2⟩
  show Wp _ _ _ _ _ 24 _ [] _ _ _ _ _
  refine wp_aload_n dX11_fillCommon_24 rfl rfl ?_
  refine wp_getR (b := 156) dX11_fillCommon_25 fX11_76 rfl sh0 (by decide) rfl ?_
  refine wp_aload_n dX11_fillCommon_28 rfl rfl ?_
  refine wp_getR (b := 151) dX11_fillCommon_29 fX11_70 rfl sh0 (by decide) rfl ?_
  refine wp_aload_n dX11_fillCommon_32 rfl rfl ?_
  refine wp_getR (b := 146) dX11_fillCommon_33 fX11_66 rfl sh0 (by decide) rfl ?_
  refine wp_callV (S := []) (as := [vR 151, vR 146]) dX11_fillCommon_36 lX11_315 (q2) (by omega) sh156 rfl rfl (Nat.le_of_ble_eq_true rfl) ⟨Nat.le_refl _, Nat.le_refl _⟩ ?_
  rintro _ _ V3 ⟨rfl, rfl, q3⟩
  show Wp _ _ _ _ _ 39 _ [] _ _ _ _ _
  exact wp_return dX11_fillCommon_39 rfl ⟨rfl, rfl⟩ ⟨rfl, q3⟩
set_option maxHeartbeats 4000000 in
set_option maxRecDepth 10000 in
theorem sX11_ends {K : KK} {d : Nat} {V : Mem} {Q : Option AV → Mem → Prop} (x1 : Int) (x2 : Int) (h : ((x1 < 0 → Q (some (vI (-1))) V) ∧ (¬ (x1 < 0) → (((V 43 6) ≤ x1 → Q (some (vI (-1))) V) ∧ (¬ ((V 43 6) ≤ x1) → (((0 : Int) ≤ x1 ∧ x1 < (8 : Nat)) ∧ Mf K d mX0_hasStrand [vR (57 + 2 * Int.toNat x1), vI x2] V (fun r V4 => ∃ z4, r = some (vI z4) ∧ ((¬ z4 = 0 → (((0 : Int) ≤ x2 ∧ x2 < (10 : Nat)) ∧ Q (some (vI (V4 ((57 + 2 * Int.toNat x1) + 1) (Int.toNat x2)))) V4)) ∧ (z4 = 0 → Q (some (vI (-1))) V4))))))))) : Mf K (d + 1) mX11_ends [vR 0, vI x1, vI x2] V Q := by
  refine Mt.of2 (L := [some (vR 0), some (vI x1), some (vI x2), none]) pnX11 rfl rfl ?_
  refine wp_aload_n dX11_ends_0 rfl rfl ?_
  refine wp_getR (b := 43) dX11_ends_1 fX11_26 rfl sh0 (by decide) rfl ?_
  refine wp_iload_n dX11_ends_4 rfl rfl ?_
  refine wp_inlV (d' := d) (S := []) (as := [vI x1]) dX11_ends_5 lX11_178 (by omega) sh43 rfl rfl (Nat.le_of_ble_eq_true rfl) ⟨Nat.le_refl _, Nat.le_refl _⟩ (Mt.of2 (L := [some (vR 43), some (vI x1)]) pnX7 rfl rfl ?_)
  refine wp_iload_n dX7_braidAt_0 rfl rfl ?_
  refine wp_if_lt (tgt := 21) dX7_braidAt_1 rfl (fun c1 => ?_) (fun c1 => ?_)
  ·
    refine wp_null dX7_braidAt_21 ?_
    refine wp_areturn dX7_braidAt_22 rfl ⟨rfl, rfl⟩ ?_
    show Wp _ _ _ _ _ 8 _ [vN] _ _ _ _ _
    refine wp_astore_nN dX11_ends_8 rfl (by decide) rfl ?_
    refine wp_aload_nN dX11_ends_9 rfl rfl ?_
    refine wp_ifnullN (tgt := 21) dX11_ends_10 rfl ?_
    refine wp_iconst dX11_ends_21 (by decide) ?_
    exact wp_ireturn dX11_ends_22 rfl ⟨rfl, rfl⟩ ⟨rfl, (h.1 c1)⟩
  ·
    refine wp_iload_n dX7_braidAt_4 rfl rfl ?_
    refine wp_aload_n dX7_braidAt_5 rfl rfl ?_
    refine wp_getI dX7_braidAt_6 fX7_40 rfl sh43 (by decide) ?_
    refine wp_icmp_ge (tgt := 21) dX7_braidAt_9 rfl (fun c2 => ?_) (fun c2 => ?_)
    ·
      refine wp_null dX7_braidAt_21 ?_
      refine wp_areturn dX7_braidAt_22 rfl ⟨rfl, rfl⟩ ?_
      show Wp _ _ _ _ _ 8 _ [vN] _ _ _ _ _
      refine wp_astore_nN dX11_ends_8 rfl (by decide) rfl ?_
      refine wp_aload_nN dX11_ends_9 rfl rfl ?_
      refine wp_ifnullN (tgt := 21) dX11_ends_10 rfl ?_
      refine wp_iconst dX11_ends_21 (by decide) ?_
      exact wp_ireturn dX11_ends_22 rfl ⟨rfl, rfl⟩ ⟨rfl, ((h.2 c1).1 c2)⟩
    ·
      refine wp_aload_n dX7_braidAt_12 rfl rfl ?_
      refine wp_getR (b := 45) dX7_braidAt_13 fX7_19 rfl sh43 (by decide) rfl ?_
      refine wp_iload_n dX7_braidAt_16 rfl rfl ?_
      have g3 : (0 : Int) ≤ x1 ∧ x1 < (8 : Nat) := ((h.2 c1).2 c2).1
      refine wp_aald (b := (57 + 2 * Int.toNat x1)) dX7_braidAt_17 sh45 (by decide) g3 (ap_get (b := 57) (s := 2) (n := 8) g3) ?_
      refine wp_goto (tgt := 22) dX7_braidAt_18 rfl ?_
      refine wp_areturn dX7_braidAt_22 rfl ⟨rfl, rfl⟩ ?_
      show Wp _ _ _ _ _ 8 _ [vR (57 + 2 * Int.toNat x1)] _ _ _ _ _
      refine wp_astore_n dX11_ends_8 rfl (by decide) rfl ?_
      refine wp_aload_n dX11_ends_9 rfl rfl ?_
      refine wp_ifnull dX11_ends_10 ?_
      refine wp_aload_n dX11_ends_13 rfl rfl ?_
      refine wp_iload_n dX11_ends_14 rfl rfl ?_
      refine wp_callV (S := []) (as := [vI x2]) dX11_ends_15 lX11_318 (((h.2 c1).2 c2).2) (by omega) (obj45 g3).1 rfl rfl (Nat.le_of_ble_eq_true rfl) ⟨Nat.le_refl _, Nat.le_refl _⟩ ?_
      rintro _ _ V4 ⟨rfl, z4, rfl, q4⟩
      show Wp _ _ _ _ _ 18 _ [vI z4] _ _ _ _ _
      refine wp_if_ne (tgt := 23) dX11_ends_18 rfl (fun c5 => ?_) (fun c5 => ?_)
      ·
        refine wp_aload_n dX11_ends_23 rfl rfl ?_
        refine wp_getR (b := ((57 + 2 * Int.toNat x1) + 1)) dX11_ends_24 fX11_321 rfl (obj45 g3).1 (by decide) rfl ?_
        refine wp_iload_n dX11_ends_27 rfl rfl ?_
        refine wp_iald dX11_ends_28 (obj45 g3).2 (q4.1 c5).1 ?_
        exact wp_ireturn dX11_ends_29 rfl ⟨rfl, rfl⟩ ⟨rfl, (q4.1 c5).2⟩
      ·
        refine wp_iconst dX11_ends_21 (by decide) ?_
        exact wp_ireturn dX11_ends_22 rfl ⟨rfl, rfl⟩ ⟨rfl, (q4.2 c5)⟩
set_option maxHeartbeats 4000000 in
set_option maxRecDepth 10000 in
theorem sX11_counts {K : KK} {d : Nat} {V : Mem} {Q : Option AV → Mem → Prop} (x1 : Int) (x2 : Int) (x3 : Int) (h : ((x1 < 0 → Q (some (vI (-1))) V) ∧ (¬ (x1 < 0) → (((V 43 6) ≤ x1 → Q (some (vI (-1))) V) ∧ (¬ ((V 43 6) ≤ x1) → (((0 : Int) ≤ x1 ∧ x1 < (8 : Nat)) ∧ ((x2 < 0 → Q (some (vI (-1))) V) ∧ (¬ (x2 < 0) → (((V (57 + 2 * Int.toNat x1) 2) < x2 → Q (some (vI (-1))) V) ∧ (¬ ((V (57 + 2 * Int.toNat x1) 2) < x2) → ((x3 < 0 → Q (some (vI (-1))) V) ∧ (¬ (x3 < 0) → ((x3 ≤ (V (57 + 2 * Int.toNat x1) 2) → Mf K d mX0_countOf [vR (57 + 2 * Int.toNat x1), vI x2, vI x3] V (fun r V8 => ∃ z8, r = some (vI z8) ∧ Q (some (vI z8)) V8)) ∧ (¬ (x3 ≤ (V (57 + 2 * Int.toNat x1) 2)) → Q (some (vI (-1))) V)))))))))))))) : Mf K (d + 1) mX11_counts [vR 0, vI x1, vI x2, vI x3] V Q := by
  refine Mt.of2 (L := [some (vR 0), some (vI x1), some (vI x2), some (vI x3), none]) pnX11 rfl rfl ?_
  refine wp_aload_n dX11_counts_0 rfl rfl ?_
  refine wp_getR (b := 43) dX11_counts_1 fX11_26 rfl sh0 (by decide) rfl ?_
  refine wp_iload_n dX11_counts_4 rfl rfl ?_
  refine wp_inlV (d' := d) (S := []) (as := [vI x1]) dX11_counts_5 lX11_178 (by omega) sh43 rfl rfl (Nat.le_of_ble_eq_true rfl) ⟨Nat.le_refl _, Nat.le_refl _⟩ (Mt.of2 (L := [some (vR 43), some (vI x1)]) pnX7 rfl rfl ?_)
  refine wp_iload_n dX7_braidAt_0 rfl rfl ?_
  refine wp_if_lt (tgt := 21) dX7_braidAt_1 rfl (fun c1 => ?_) (fun c1 => ?_)
  ·
    refine wp_null dX7_braidAt_21 ?_
    refine wp_areturn dX7_braidAt_22 rfl ⟨rfl, rfl⟩ ?_
    show Wp _ _ _ _ _ 8 _ [vN] _ _ _ _ _
    refine wp_astoreN dX11_counts_8 (by decide) rfl ?_
    refine wp_aloadN dX11_counts_10 rfl ?_
    refine wp_ifnullN (tgt := 41) dX11_counts_12 rfl ?_
    refine wp_iconst dX11_counts_41 (by decide) ?_
    exact wp_ireturn dX11_counts_42 rfl ⟨rfl, rfl⟩ ⟨rfl, (h.1 c1)⟩
  ·
    refine wp_iload_n dX7_braidAt_4 rfl rfl ?_
    refine wp_aload_n dX7_braidAt_5 rfl rfl ?_
    refine wp_getI dX7_braidAt_6 fX7_40 rfl sh43 (by decide) ?_
    refine wp_icmp_ge (tgt := 21) dX7_braidAt_9 rfl (fun c2 => ?_) (fun c2 => ?_)
    ·
      refine wp_null dX7_braidAt_21 ?_
      refine wp_areturn dX7_braidAt_22 rfl ⟨rfl, rfl⟩ ?_
      show Wp _ _ _ _ _ 8 _ [vN] _ _ _ _ _
      refine wp_astoreN dX11_counts_8 (by decide) rfl ?_
      refine wp_aloadN dX11_counts_10 rfl ?_
      refine wp_ifnullN (tgt := 41) dX11_counts_12 rfl ?_
      refine wp_iconst dX11_counts_41 (by decide) ?_
      exact wp_ireturn dX11_counts_42 rfl ⟨rfl, rfl⟩ ⟨rfl, ((h.2 c1).1 c2)⟩
    ·
      refine wp_aload_n dX7_braidAt_12 rfl rfl ?_
      refine wp_getR (b := 45) dX7_braidAt_13 fX7_19 rfl sh43 (by decide) rfl ?_
      refine wp_iload_n dX7_braidAt_16 rfl rfl ?_
      have g3 : (0 : Int) ≤ x1 ∧ x1 < (8 : Nat) := ((h.2 c1).2 c2).1
      refine wp_aald (b := (57 + 2 * Int.toNat x1)) dX7_braidAt_17 sh45 (by decide) g3 (ap_get (b := 57) (s := 2) (n := 8) g3) ?_
      refine wp_goto (tgt := 22) dX7_braidAt_18 rfl ?_
      refine wp_areturn dX7_braidAt_22 rfl ⟨rfl, rfl⟩ ?_
      show Wp _ _ _ _ _ 8 _ [vR (57 + 2 * Int.toNat x1)] _ _ _ _ _
      refine wp_astore dX11_counts_8 (by decide) rfl ?_
      refine wp_aload dX11_counts_10 rfl ?_
      refine wp_ifnull dX11_counts_12 ?_
      refine wp_iload_n dX11_counts_15 rfl rfl ?_
      refine wp_if_lt (tgt := 41) dX11_counts_16 rfl (fun c4 => ?_) (fun c4 => ?_)
      ·
        refine wp_iconst dX11_counts_41 (by decide) ?_
        exact wp_ireturn dX11_counts_42 rfl ⟨rfl, rfl⟩ ⟨rfl, (((h.2 c1).2 c2).2.1 c4)⟩
      ·
        refine wp_iload_n dX11_counts_19 rfl rfl ?_
        refine wp_aload dX11_counts_20 rfl ?_
        refine wp_getI dX11_counts_22 fX11_182 rfl (obj45 g3).1 (by decide) ?_
        refine wp_icmp_gt (tgt := 41) dX11_counts_25 rfl (fun c5 => ?_) (fun c5 => ?_)
        ·
          refine wp_iconst dX11_counts_41 (by decide) ?_
          exact wp_ireturn dX11_counts_42 rfl ⟨rfl, rfl⟩ ⟨rfl, ((((h.2 c1).2 c2).2.2 c4).1 c5)⟩
        ·
          refine wp_iload_n dX11_counts_28 rfl rfl ?_
          refine wp_if_lt (tgt := 41) dX11_counts_29 rfl (fun c6 => ?_) (fun c6 => ?_)
          ·
            refine wp_iconst dX11_counts_41 (by decide) ?_
            exact wp_ireturn dX11_counts_42 rfl ⟨rfl, rfl⟩ ⟨rfl, (((((h.2 c1).2 c2).2.2 c4).2 c5).1 c6)⟩
          ·
            refine wp_iload_n dX11_counts_32 rfl rfl ?_
            refine wp_aload dX11_counts_33 rfl ?_
            refine wp_getI dX11_counts_35 fX11_182 rfl (obj45 g3).1 (by decide) ?_
            refine wp_icmp_le (tgt := 43) dX11_counts_38 rfl (fun c7 => ?_) (fun c7 => ?_)
            ·
              refine wp_aload dX11_counts_43 rfl ?_
              refine wp_iload_n dX11_counts_45 rfl rfl ?_
              refine wp_iload_n dX11_counts_46 rfl rfl ?_
              refine wp_callV (S := []) (as := [vI x2, vI x3]) dX11_counts_47 lX11_324 (((((((h.2 c1).2 c2).2.2 c4).2 c5).2 c6).1 c7)) (by omega) (obj45 g3).1 rfl rfl (Nat.le_of_ble_eq_true rfl) ⟨Nat.le_refl _, Nat.le_refl _⟩ ?_
              rintro _ _ V8 ⟨rfl, z8, rfl, q8⟩
              show Wp _ _ _ _ _ 50 _ [vI z8] _ _ _ _ _
              exact wp_ireturn dX11_counts_50 rfl ⟨rfl, rfl⟩ ⟨rfl, q8⟩
            ·
              refine wp_iconst dX11_counts_41 (by decide) ?_
              exact wp_ireturn dX11_counts_42 rfl ⟨rfl, rfl⟩ ⟨rfl, ((((((h.2 c1).2 c2).2.2 c4).2 c5).2 c6).2 c7)⟩
set_option maxHeartbeats 4000000 in
set_option maxRecDepth 10000 in
theorem sX11_compose {K : KK} {d : Nat} {V : Mem} {Q : Option AV → Mem → Prop} (x1 : Int) (x2 : Int) (x3 : Int) (h : ((x1 < 0 → ((x2 < 0 → Q (some (vI (-1))) V) ∧ (¬ (x2 < 0) → (((V 43 6) ≤ x2 → Q (some (vI (-1))) V) ∧ (¬ ((V 43 6) ≤ x2) → (((0 : Int) ≤ x2 ∧ x2 < (8 : Nat)) ∧ Q (some (vI (-1))) V)))))) ∧ (¬ (x1 < 0) → (((V 43 6) ≤ x1 → ((x2 < 0 → Q (some (vI (-1))) V) ∧ (¬ (x2 < 0) → (((V 43 6) ≤ x2 → Q (some (vI (-1))) V) ∧ (¬ ((V 43 6) ≤ x2) → (((0 : Int) ≤ x2 ∧ x2 < (8 : Nat)) ∧ Q (some (vI (-1))) V)))))) ∧ (¬ ((V 43 6) ≤ x1) → (((0 : Int) ≤ x1 ∧ x1 < (8 : Nat)) ∧ ((x2 < 0 → Q (some (vI (-1))) V) ∧ (¬ (x2 < 0) → (((V 43 6) ≤ x2 → Q (some (vI (-1))) V) ∧ (¬ ((V 43 6) ≤ x2) → (((0 : Int) ≤ x2 ∧ x2 < (8 : Nat)) ∧ ((¬ (V (57 + 2 * Int.toNat x1) 2) = (V (57 + 2 * Int.toNat x2) 2) → Q (some (vI (-1))) V) ∧ ((V (57 + 2 * Int.toNat x1) 2) = (V (57 + 2 * Int.toNat x2) 2) → Mf K d mX0_hasStrand [vR (57 + 2 * Int.toNat x1), vI x3] V (fun r V24 => ∃ z24, r = some (vI z24) ∧ ((¬ z24 = 0 → Mf K d mX2_join [vR 204, vR (57 + 2 * Int.toNat x1), vR (57 + 2 * Int.toNat x2), vR 205] V24 (fun r V26 => r = none ∧ (((0 : Int) ≤ x3 ∧ x3 < (10 : Nat)) ∧ Q (some (vI (V26 206 (Int.toNat x3)))) V26))) ∧ (z24 = 0 → Q (some (vI (-1))) V24)))))))))))))))) : Mf K (d + 1) mX11_compose [vR 0, vI x1, vI x2, vI x3] V Q := by
  refine Mt.of2 (L := [some (vR 0), some (vI x1), some (vI x2), some (vI x3), none, none]) pnX11 rfl rfl ?_
  refine wp_aload_n dX11_compose_0 rfl rfl ?_
  refine wp_getR (b := 43) dX11_compose_1 fX11_26 rfl sh0 (by decide) rfl ?_
  refine wp_iload_n dX11_compose_4 rfl rfl ?_
  refine wp_inlV (d' := d) (S := []) (as := [vI x1]) dX11_compose_5 lX11_178 (by omega) sh43 rfl rfl (Nat.le_of_ble_eq_true rfl) ⟨Nat.le_refl _, Nat.le_refl _⟩ (Mt.of2 (L := [some (vR 43), some (vI x1)]) pnX7 rfl rfl ?_)
  refine wp_iload_n dX7_braidAt_0 rfl rfl ?_
  refine wp_if_lt (tgt := 21) dX7_braidAt_1 rfl (fun c1 => ?_) (fun c1 => ?_)
  ·
    refine wp_null dX7_braidAt_21 ?_
    refine wp_areturn dX7_braidAt_22 rfl ⟨rfl, rfl⟩ ?_
    show Wp _ _ _ _ _ 8 _ [vN] _ _ _ _ _
    refine wp_astoreN dX11_compose_8 (by decide) rfl ?_
    refine wp_aload_n dX11_compose_10 rfl rfl ?_
    refine wp_getR (b := 43) dX11_compose_11 fX11_26 rfl sh0 (by decide) rfl ?_
    refine wp_iload_n dX11_compose_14 rfl rfl ?_
    refine wp_inlV (d' := d) (S := []) (as := [vI x2]) dX11_compose_15 lX11_178 (by omega) sh43 rfl rfl (Nat.le_of_ble_eq_true rfl) ⟨Nat.le_refl _, Nat.le_refl _⟩ (Mt.of2 (L := [some (vR 43), some (vI x2)]) pnX7 rfl rfl ?_)
    refine wp_iload_n dX7_braidAt_0 rfl rfl ?_
    refine wp_if_lt (tgt := 21) dX7_braidAt_1 rfl (fun c2 => ?_) (fun c2 => ?_)
    ·
      refine wp_null dX7_braidAt_21 ?_
      refine wp_areturn dX7_braidAt_22 rfl ⟨rfl, rfl⟩ ?_
      show Wp _ _ _ _ _ 18 _ [vN] _ _ _ _ _
      refine wp_astoreN dX11_compose_18 (by decide) rfl ?_
      refine wp_aloadN dX11_compose_20 rfl ?_
      refine wp_aloadN dX11_compose_22 rfl ?_
      refine wp_inlS (d' := d) (S := []) (as := [vN, vN]) dX11_compose_24 lX11_327 (by omega) rfl rfl (Nat.le_of_ble_eq_true rfl) ⟨Nat.le_refl _, Nat.le_refl _⟩ (Mt.of2 (L := [some vN, some vN]) pnX11 rfl rfl ?_)
      refine wp_aload_nN dX11_areAlike_0 rfl rfl ?_
      refine wp_ifnullN (tgt := 23) dX11_areAlike_1 rfl ?_
      refine wp_iconst dX11_areAlike_23 (by decide) ?_
      refine wp_zreturn dX11_areAlike_24 rfl ⟨rfl, rfl⟩ (by decide) ?_
      show Wp _ _ _ _ _ 27 _ [vI 0] _ _ _ _ _
      refine wp_if_eq (tgt := 39) dX11_compose_27 rfl (fun c3 => ?_) (fun c3 => False.elim (by revert c3; decide))
      refine wp_iconst dX11_compose_39 (by decide) ?_
      exact wp_ireturn dX11_compose_40 rfl ⟨rfl, rfl⟩ ⟨rfl, ((h.1 c1).1 c2)⟩
    ·
      refine wp_iload_n dX7_braidAt_4 rfl rfl ?_
      refine wp_aload_n dX7_braidAt_5 rfl rfl ?_
      refine wp_getI dX7_braidAt_6 fX7_40 rfl sh43 (by decide) ?_
      refine wp_icmp_ge (tgt := 21) dX7_braidAt_9 rfl (fun c4 => ?_) (fun c4 => ?_)
      ·
        refine wp_null dX7_braidAt_21 ?_
        refine wp_areturn dX7_braidAt_22 rfl ⟨rfl, rfl⟩ ?_
        show Wp _ _ _ _ _ 18 _ [vN] _ _ _ _ _
        refine wp_astoreN dX11_compose_18 (by decide) rfl ?_
        refine wp_aloadN dX11_compose_20 rfl ?_
        refine wp_aloadN dX11_compose_22 rfl ?_
        refine wp_inlS (d' := d) (S := []) (as := [vN, vN]) dX11_compose_24 lX11_327 (by omega) rfl rfl (Nat.le_of_ble_eq_true rfl) ⟨Nat.le_refl _, Nat.le_refl _⟩ (Mt.of2 (L := [some vN, some vN]) pnX11 rfl rfl ?_)
        refine wp_aload_nN dX11_areAlike_0 rfl rfl ?_
        refine wp_ifnullN (tgt := 23) dX11_areAlike_1 rfl ?_
        refine wp_iconst dX11_areAlike_23 (by decide) ?_
        refine wp_zreturn dX11_areAlike_24 rfl ⟨rfl, rfl⟩ (by decide) ?_
        show Wp _ _ _ _ _ 27 _ [vI 0] _ _ _ _ _
        refine wp_if_eq (tgt := 39) dX11_compose_27 rfl (fun c5 => ?_) (fun c5 => False.elim (by revert c5; decide))
        refine wp_iconst dX11_compose_39 (by decide) ?_
        exact wp_ireturn dX11_compose_40 rfl ⟨rfl, rfl⟩ ⟨rfl, (((h.1 c1).2 c2).1 c4)⟩
      ·
        refine wp_aload_n dX7_braidAt_12 rfl rfl ?_
        refine wp_getR (b := 45) dX7_braidAt_13 fX7_19 rfl sh43 (by decide) rfl ?_
        refine wp_iload_n dX7_braidAt_16 rfl rfl ?_
        have g6 : (0 : Int) ≤ x2 ∧ x2 < (8 : Nat) := (((h.1 c1).2 c2).2 c4).1
        refine wp_aald (b := (57 + 2 * Int.toNat x2)) dX7_braidAt_17 sh45 (by decide) g6 (ap_get (b := 57) (s := 2) (n := 8) g6) ?_
        refine wp_goto (tgt := 22) dX7_braidAt_18 rfl ?_
        refine wp_areturn dX7_braidAt_22 rfl ⟨rfl, rfl⟩ ?_
        show Wp _ _ _ _ _ 18 _ [vR (57 + 2 * Int.toNat x2)] _ _ _ _ _
        refine wp_astore dX11_compose_18 (by decide) rfl ?_
        refine wp_aloadN dX11_compose_20 rfl ?_
        refine wp_aload dX11_compose_22 rfl ?_
        refine wp_inlS (d' := d) (S := []) (as := [vN, vR (57 + 2 * Int.toNat x2)]) dX11_compose_24 lX11_327 (by omega) rfl rfl (Nat.le_of_ble_eq_true rfl) ⟨Nat.le_refl _, Nat.le_refl _⟩ (Mt.of2 (L := [some vN, some (vR (57 + 2 * Int.toNat x2))]) pnX11 rfl rfl ?_)
        refine wp_aload_nN dX11_areAlike_0 rfl rfl ?_
        refine wp_ifnullN (tgt := 23) dX11_areAlike_1 rfl ?_
        refine wp_iconst dX11_areAlike_23 (by decide) ?_
        refine wp_zreturn dX11_areAlike_24 rfl ⟨rfl, rfl⟩ (by decide) ?_
        show Wp _ _ _ _ _ 27 _ [vI 0] _ _ _ _ _
        refine wp_if_eq (tgt := 39) dX11_compose_27 rfl (fun c7 => ?_) (fun c7 => False.elim (by revert c7; decide))
        refine wp_iconst dX11_compose_39 (by decide) ?_
        exact wp_ireturn dX11_compose_40 rfl ⟨rfl, rfl⟩ ⟨rfl, (((h.1 c1).2 c2).2 c4).2⟩
  ·
    refine wp_iload_n dX7_braidAt_4 rfl rfl ?_
    refine wp_aload_n dX7_braidAt_5 rfl rfl ?_
    refine wp_getI dX7_braidAt_6 fX7_40 rfl sh43 (by decide) ?_
    refine wp_icmp_ge (tgt := 21) dX7_braidAt_9 rfl (fun c8 => ?_) (fun c8 => ?_)
    ·
      refine wp_null dX7_braidAt_21 ?_
      refine wp_areturn dX7_braidAt_22 rfl ⟨rfl, rfl⟩ ?_
      show Wp _ _ _ _ _ 8 _ [vN] _ _ _ _ _
      refine wp_astoreN dX11_compose_8 (by decide) rfl ?_
      refine wp_aload_n dX11_compose_10 rfl rfl ?_
      refine wp_getR (b := 43) dX11_compose_11 fX11_26 rfl sh0 (by decide) rfl ?_
      refine wp_iload_n dX11_compose_14 rfl rfl ?_
      refine wp_inlV (d' := d) (S := []) (as := [vI x2]) dX11_compose_15 lX11_178 (by omega) sh43 rfl rfl (Nat.le_of_ble_eq_true rfl) ⟨Nat.le_refl _, Nat.le_refl _⟩ (Mt.of2 (L := [some (vR 43), some (vI x2)]) pnX7 rfl rfl ?_)
      refine wp_iload_n dX7_braidAt_0 rfl rfl ?_
      refine wp_if_lt (tgt := 21) dX7_braidAt_1 rfl (fun c9 => ?_) (fun c9 => ?_)
      ·
        refine wp_null dX7_braidAt_21 ?_
        refine wp_areturn dX7_braidAt_22 rfl ⟨rfl, rfl⟩ ?_
        show Wp _ _ _ _ _ 18 _ [vN] _ _ _ _ _
        refine wp_astoreN dX11_compose_18 (by decide) rfl ?_
        refine wp_aloadN dX11_compose_20 rfl ?_
        refine wp_aloadN dX11_compose_22 rfl ?_
        refine wp_inlS (d' := d) (S := []) (as := [vN, vN]) dX11_compose_24 lX11_327 (by omega) rfl rfl (Nat.le_of_ble_eq_true rfl) ⟨Nat.le_refl _, Nat.le_refl _⟩ (Mt.of2 (L := [some vN, some vN]) pnX11 rfl rfl ?_)
        refine wp_aload_nN dX11_areAlike_0 rfl rfl ?_
        refine wp_ifnullN (tgt := 23) dX11_areAlike_1 rfl ?_
        refine wp_iconst dX11_areAlike_23 (by decide) ?_
        refine wp_zreturn dX11_areAlike_24 rfl ⟨rfl, rfl⟩ (by decide) ?_
        show Wp _ _ _ _ _ 27 _ [vI 0] _ _ _ _ _
        refine wp_if_eq (tgt := 39) dX11_compose_27 rfl (fun c10 => ?_) (fun c10 => False.elim (by revert c10; decide))
        refine wp_iconst dX11_compose_39 (by decide) ?_
        exact wp_ireturn dX11_compose_40 rfl ⟨rfl, rfl⟩ ⟨rfl, (((h.2 c1).1 c8).1 c9)⟩
      ·
        refine wp_iload_n dX7_braidAt_4 rfl rfl ?_
        refine wp_aload_n dX7_braidAt_5 rfl rfl ?_
        refine wp_getI dX7_braidAt_6 fX7_40 rfl sh43 (by decide) ?_
        refine wp_icmp_ge (tgt := 21) dX7_braidAt_9 rfl (fun c11 => ?_) (fun c11 => ?_)
        ·
          refine wp_null dX7_braidAt_21 ?_
          refine wp_areturn dX7_braidAt_22 rfl ⟨rfl, rfl⟩ ?_
          show Wp _ _ _ _ _ 18 _ [vN] _ _ _ _ _
          refine wp_astoreN dX11_compose_18 (by decide) rfl ?_
          refine wp_aloadN dX11_compose_20 rfl ?_
          refine wp_aloadN dX11_compose_22 rfl ?_
          refine wp_inlS (d' := d) (S := []) (as := [vN, vN]) dX11_compose_24 lX11_327 (by omega) rfl rfl (Nat.le_of_ble_eq_true rfl) ⟨Nat.le_refl _, Nat.le_refl _⟩ (Mt.of2 (L := [some vN, some vN]) pnX11 rfl rfl ?_)
          refine wp_aload_nN dX11_areAlike_0 rfl rfl ?_
          refine wp_ifnullN (tgt := 23) dX11_areAlike_1 rfl ?_
          refine wp_iconst dX11_areAlike_23 (by decide) ?_
          refine wp_zreturn dX11_areAlike_24 rfl ⟨rfl, rfl⟩ (by decide) ?_
          show Wp _ _ _ _ _ 27 _ [vI 0] _ _ _ _ _
          refine wp_if_eq (tgt := 39) dX11_compose_27 rfl (fun c12 => ?_) (fun c12 => False.elim (by revert c12; decide))
          refine wp_iconst dX11_compose_39 (by decide) ?_
          exact wp_ireturn dX11_compose_40 rfl ⟨rfl, rfl⟩ ⟨rfl, ((((h.2 c1).1 c8).2 c9).1 c11)⟩
        ·
          refine wp_aload_n dX7_braidAt_12 rfl rfl ?_
          refine wp_getR (b := 45) dX7_braidAt_13 fX7_19 rfl sh43 (by decide) rfl ?_
          refine wp_iload_n dX7_braidAt_16 rfl rfl ?_
          have g13 : (0 : Int) ≤ x2 ∧ x2 < (8 : Nat) := ((((h.2 c1).1 c8).2 c9).2 c11).1
          refine wp_aald (b := (57 + 2 * Int.toNat x2)) dX7_braidAt_17 sh45 (by decide) g13 (ap_get (b := 57) (s := 2) (n := 8) g13) ?_
          refine wp_goto (tgt := 22) dX7_braidAt_18 rfl ?_
          refine wp_areturn dX7_braidAt_22 rfl ⟨rfl, rfl⟩ ?_
          show Wp _ _ _ _ _ 18 _ [vR (57 + 2 * Int.toNat x2)] _ _ _ _ _
          refine wp_astore dX11_compose_18 (by decide) rfl ?_
          refine wp_aloadN dX11_compose_20 rfl ?_
          refine wp_aload dX11_compose_22 rfl ?_
          refine wp_inlS (d' := d) (S := []) (as := [vN, vR (57 + 2 * Int.toNat x2)]) dX11_compose_24 lX11_327 (by omega) rfl rfl (Nat.le_of_ble_eq_true rfl) ⟨Nat.le_refl _, Nat.le_refl _⟩ (Mt.of2 (L := [some vN, some (vR (57 + 2 * Int.toNat x2))]) pnX11 rfl rfl ?_)
          refine wp_aload_nN dX11_areAlike_0 rfl rfl ?_
          refine wp_ifnullN (tgt := 23) dX11_areAlike_1 rfl ?_
          refine wp_iconst dX11_areAlike_23 (by decide) ?_
          refine wp_zreturn dX11_areAlike_24 rfl ⟨rfl, rfl⟩ (by decide) ?_
          show Wp _ _ _ _ _ 27 _ [vI 0] _ _ _ _ _
          refine wp_if_eq (tgt := 39) dX11_compose_27 rfl (fun c14 => ?_) (fun c14 => False.elim (by revert c14; decide))
          refine wp_iconst dX11_compose_39 (by decide) ?_
          exact wp_ireturn dX11_compose_40 rfl ⟨rfl, rfl⟩ ⟨rfl, ((((h.2 c1).1 c8).2 c9).2 c11).2⟩
    ·
      refine wp_aload_n dX7_braidAt_12 rfl rfl ?_
      refine wp_getR (b := 45) dX7_braidAt_13 fX7_19 rfl sh43 (by decide) rfl ?_
      refine wp_iload_n dX7_braidAt_16 rfl rfl ?_
      have g15 : (0 : Int) ≤ x1 ∧ x1 < (8 : Nat) := ((h.2 c1).2 c8).1
      refine wp_aald (b := (57 + 2 * Int.toNat x1)) dX7_braidAt_17 sh45 (by decide) g15 (ap_get (b := 57) (s := 2) (n := 8) g15) ?_
      refine wp_goto (tgt := 22) dX7_braidAt_18 rfl ?_
      refine wp_areturn dX7_braidAt_22 rfl ⟨rfl, rfl⟩ ?_
      show Wp _ _ _ _ _ 8 _ [vR (57 + 2 * Int.toNat x1)] _ _ _ _ _
      refine wp_astore dX11_compose_8 (by decide) rfl ?_
      refine wp_aload_n dX11_compose_10 rfl rfl ?_
      refine wp_getR (b := 43) dX11_compose_11 fX11_26 rfl sh0 (by decide) rfl ?_
      refine wp_iload_n dX11_compose_14 rfl rfl ?_
      refine wp_inlV (d' := d) (S := []) (as := [vI x2]) dX11_compose_15 lX11_178 (by omega) sh43 rfl rfl (Nat.le_of_ble_eq_true rfl) ⟨Nat.le_refl _, Nat.le_refl _⟩ (Mt.of2 (L := [some (vR 43), some (vI x2)]) pnX7 rfl rfl ?_)
      refine wp_iload_n dX7_braidAt_0 rfl rfl ?_
      refine wp_if_lt (tgt := 21) dX7_braidAt_1 rfl (fun c16 => ?_) (fun c16 => ?_)
      ·
        refine wp_null dX7_braidAt_21 ?_
        refine wp_areturn dX7_braidAt_22 rfl ⟨rfl, rfl⟩ ?_
        show Wp _ _ _ _ _ 18 _ [vN] _ _ _ _ _
        refine wp_astoreN dX11_compose_18 (by decide) rfl ?_
        refine wp_aload dX11_compose_20 rfl ?_
        refine wp_aloadN dX11_compose_22 rfl ?_
        refine wp_inlS (d' := d) (S := []) (as := [vR (57 + 2 * Int.toNat x1), vN]) dX11_compose_24 lX11_327 (by omega) rfl rfl (Nat.le_of_ble_eq_true rfl) ⟨Nat.le_refl _, Nat.le_refl _⟩ (Mt.of2 (L := [some (vR (57 + 2 * Int.toNat x1)), some vN]) pnX11 rfl rfl ?_)
        refine wp_aload_n dX11_areAlike_0 rfl rfl ?_
        refine wp_ifnull dX11_areAlike_1 ?_
        refine wp_aload_nN dX11_areAlike_4 rfl rfl ?_
        refine wp_ifnullN (tgt := 23) dX11_areAlike_5 rfl ?_
        refine wp_iconst dX11_areAlike_23 (by decide) ?_
        refine wp_zreturn dX11_areAlike_24 rfl ⟨rfl, rfl⟩ (by decide) ?_
        show Wp _ _ _ _ _ 27 _ [vI 0] _ _ _ _ _
        refine wp_if_eq (tgt := 39) dX11_compose_27 rfl (fun c17 => ?_) (fun c17 => False.elim (by revert c17; decide))
        refine wp_iconst dX11_compose_39 (by decide) ?_
        exact wp_ireturn dX11_compose_40 rfl ⟨rfl, rfl⟩ ⟨rfl, (((h.2 c1).2 c8).2.1 c16)⟩
      ·
        refine wp_iload_n dX7_braidAt_4 rfl rfl ?_
        refine wp_aload_n dX7_braidAt_5 rfl rfl ?_
        refine wp_getI dX7_braidAt_6 fX7_40 rfl sh43 (by decide) ?_
        refine wp_icmp_ge (tgt := 21) dX7_braidAt_9 rfl (fun c18 => ?_) (fun c18 => ?_)
        ·
          refine wp_null dX7_braidAt_21 ?_
          refine wp_areturn dX7_braidAt_22 rfl ⟨rfl, rfl⟩ ?_
          show Wp _ _ _ _ _ 18 _ [vN] _ _ _ _ _
          refine wp_astoreN dX11_compose_18 (by decide) rfl ?_
          refine wp_aload dX11_compose_20 rfl ?_
          refine wp_aloadN dX11_compose_22 rfl ?_
          refine wp_inlS (d' := d) (S := []) (as := [vR (57 + 2 * Int.toNat x1), vN]) dX11_compose_24 lX11_327 (by omega) rfl rfl (Nat.le_of_ble_eq_true rfl) ⟨Nat.le_refl _, Nat.le_refl _⟩ (Mt.of2 (L := [some (vR (57 + 2 * Int.toNat x1)), some vN]) pnX11 rfl rfl ?_)
          refine wp_aload_n dX11_areAlike_0 rfl rfl ?_
          refine wp_ifnull dX11_areAlike_1 ?_
          refine wp_aload_nN dX11_areAlike_4 rfl rfl ?_
          refine wp_ifnullN (tgt := 23) dX11_areAlike_5 rfl ?_
          refine wp_iconst dX11_areAlike_23 (by decide) ?_
          refine wp_zreturn dX11_areAlike_24 rfl ⟨rfl, rfl⟩ (by decide) ?_
          show Wp _ _ _ _ _ 27 _ [vI 0] _ _ _ _ _
          refine wp_if_eq (tgt := 39) dX11_compose_27 rfl (fun c19 => ?_) (fun c19 => False.elim (by revert c19; decide))
          refine wp_iconst dX11_compose_39 (by decide) ?_
          exact wp_ireturn dX11_compose_40 rfl ⟨rfl, rfl⟩ ⟨rfl, ((((h.2 c1).2 c8).2.2 c16).1 c18)⟩
        ·
          refine wp_aload_n dX7_braidAt_12 rfl rfl ?_
          refine wp_getR (b := 45) dX7_braidAt_13 fX7_19 rfl sh43 (by decide) rfl ?_
          refine wp_iload_n dX7_braidAt_16 rfl rfl ?_
          have g20 : (0 : Int) ≤ x2 ∧ x2 < (8 : Nat) := ((((h.2 c1).2 c8).2.2 c16).2 c18).1
          refine wp_aald (b := (57 + 2 * Int.toNat x2)) dX7_braidAt_17 sh45 (by decide) g20 (ap_get (b := 57) (s := 2) (n := 8) g20) ?_
          refine wp_goto (tgt := 22) dX7_braidAt_18 rfl ?_
          refine wp_areturn dX7_braidAt_22 rfl ⟨rfl, rfl⟩ ?_
          show Wp _ _ _ _ _ 18 _ [vR (57 + 2 * Int.toNat x2)] _ _ _ _ _
          refine wp_astore dX11_compose_18 (by decide) rfl ?_
          refine wp_aload dX11_compose_20 rfl ?_
          refine wp_aload dX11_compose_22 rfl ?_
          refine wp_inlS (d' := d) (S := []) (as := [vR (57 + 2 * Int.toNat x1), vR (57 + 2 * Int.toNat x2)]) dX11_compose_24 lX11_327 (by omega) rfl rfl (Nat.le_of_ble_eq_true rfl) ⟨Nat.le_refl _, Nat.le_refl _⟩ (Mt.of2 (L := [some (vR (57 + 2 * Int.toNat x1)), some (vR (57 + 2 * Int.toNat x2))]) pnX11 rfl rfl ?_)
          refine wp_aload_n dX11_areAlike_0 rfl rfl ?_
          refine wp_ifnull dX11_areAlike_1 ?_
          refine wp_aload_n dX11_areAlike_4 rfl rfl ?_
          refine wp_ifnull dX11_areAlike_5 ?_
          refine wp_aload_n dX11_areAlike_8 rfl rfl ?_
          refine wp_getI dX11_areAlike_9 fX11_182 rfl (obj45 g15).1 (by decide) ?_
          refine wp_aload_n dX11_areAlike_12 rfl rfl ?_
          refine wp_getI dX11_areAlike_13 fX11_182 rfl (obj45 g20).1 (by decide) ?_
          refine wp_icmp_ne (tgt := 23) dX11_areAlike_16 rfl (fun c21 => ?_) (fun c21 => ?_)
          ·
            refine wp_iconst dX11_areAlike_23 (by decide) ?_
            refine wp_zreturn dX11_areAlike_24 rfl ⟨rfl, rfl⟩ (by decide) ?_
            show Wp _ _ _ _ _ 27 _ [vI 0] _ _ _ _ _
            refine wp_if_eq (tgt := 39) dX11_compose_27 rfl (fun c22 => ?_) (fun c22 => False.elim (by revert c22; decide))
            refine wp_iconst dX11_compose_39 (by decide) ?_
            exact wp_ireturn dX11_compose_40 rfl ⟨rfl, rfl⟩ ⟨rfl, (((((h.2 c1).2 c8).2.2 c16).2 c18).2.1 c21)⟩
          ·
            refine wp_iconst dX11_areAlike_19 (by decide) ?_
            refine wp_goto (tgt := 24) dX11_areAlike_20 rfl ?_
            refine wp_zreturn dX11_areAlike_24 rfl ⟨rfl, rfl⟩ (by decide) ?_
            show Wp _ _ _ _ _ 27 _ [vI 1] _ _ _ _ _
            refine wp_if_eq (tgt := 39) dX11_compose_27 rfl (fun c23 => False.elim (by revert c23; decide)) (fun c23 => ?_)
            refine wp_aload dX11_compose_30 rfl ?_
            refine wp_iload_n dX11_compose_32 rfl rfl ?_
            refine wp_callV (S := []) (as := [vI x3]) dX11_compose_33 lX11_318 ((((((h.2 c1).2 c8).2.2 c16).2 c18).2.2 c21)) (by omega) (obj45 g15).1 rfl rfl (Nat.le_of_ble_eq_true rfl) ⟨Nat.le_refl _, Nat.le_refl _⟩ ?_
            rintro _ _ V24 ⟨rfl, z24, rfl, q24⟩
            show Wp _ _ _ _ _ 36 _ [vI z24] _ _ _ _ _
            refine wp_if_ne (tgt := 41) dX11_compose_36 rfl (fun c25 => ?_) (fun c25 => ?_)
            ·
              refine wp_aload_n dX11_compose_41 rfl rfl ?_
              refine wp_getR (b := 204) dX11_compose_42 fX11_90 rfl sh0 (by decide) rfl ?_
              refine wp_aload dX11_compose_45 rfl ?_
              refine wp_aload dX11_compose_47 rfl ?_
              refine wp_aload_n dX11_compose_49 rfl rfl ?_
              refine wp_getR (b := 204) dX11_compose_50 fX11_90 rfl sh0 (by decide) rfl ?_
              refine wp_getR (b := 205) dX11_compose_53 fX11_331 rfl sh204 (by decide) rfl ?_
              refine wp_callV (S := []) (as := [vR (57 + 2 * Int.toNat x1), vR (57 + 2 * Int.toNat x2), vR 205]) dX11_compose_56 lX11_335 ((q24.1 c25)) (by omega) sh204 rfl rfl (Nat.le_of_ble_eq_true rfl) ⟨Nat.le_refl _, Nat.le_refl _⟩ ?_
              rintro _ _ V26 ⟨rfl, rfl, q26⟩
              show Wp _ _ _ _ _ 59 _ [] _ _ _ _ _
              refine wp_aload_n dX11_compose_59 rfl rfl ?_
              refine wp_getR (b := 204) dX11_compose_60 fX11_90 rfl sh0 (by decide) rfl ?_
              refine wp_getR (b := 205) dX11_compose_63 fX11_331 rfl sh204 (by decide) rfl ?_
              refine wp_getR (b := 206) dX11_compose_66 fX11_321 rfl sh205 (by decide) rfl ?_
              refine wp_iload_n dX11_compose_69 rfl rfl ?_
              refine wp_iald dX11_compose_70 sh206 q26.1 ?_
              exact wp_ireturn dX11_compose_71 rfl ⟨rfl, rfl⟩ ⟨rfl, q26.2⟩
            ·
              refine wp_iconst dX11_compose_39 (by decide) ?_
              exact wp_ireturn dX11_compose_40 rfl ⟨rfl, rfl⟩ ⟨rfl, (q24.2 c25)⟩
set_option maxHeartbeats 4000000 in
set_option maxRecDepth 10000 in
theorem sX11_power {K : KK} {d : Nat} {V : Mem} {Q : Option AV → Mem → Prop} (x1 : Int) (x2 : Int) (x3 : Int) (h : ((x1 < 0 → Q (some (vI (-1))) V) ∧ (¬ (x1 < 0) → (((V 43 6) ≤ x1 → Q (some (vI (-1))) V) ∧ (¬ ((V 43 6) ≤ x1) → (((0 : Int) ≤ x1 ∧ x1 < (8 : Nat)) ∧ ((x2 < 1 → Q (some (vI (-1))) V) ∧ (¬ (x2 < 1) → ((20 < x2 → Q (some (vI (-1))) V) ∧ (¬ (20 < x2) → Mf K d mX0_hasStrand [vR (57 + 2 * Int.toNat x1), vI x3] V (fun r V6 => ∃ z6, r = some (vI z6) ∧ ((¬ z6 = 0 → Mf K d mX2_raise [vR 204, vR (57 + 2 * Int.toNat x1), vI x2] V6 (fun r V8 => ∃ z8, r = some (vI z8) ∧ (((0 : Int) ≤ x3 ∧ x3 < (10 : Nat)) ∧ Q (some (vI (V8 208 (Int.toNat x3)))) V8))) ∧ (z6 = 0 → Q (some (vI (-1))) V6))))))))))))) : Mf K (d + 1) mX11_power [vR 0, vI x1, vI x2, vI x3] V Q := by
  refine Mt.of2 (L := [some (vR 0), some (vI x1), some (vI x2), some (vI x3), none]) pnX11 rfl rfl ?_
  refine wp_aload_n dX11_power_0 rfl rfl ?_
  refine wp_getR (b := 43) dX11_power_1 fX11_26 rfl sh0 (by decide) rfl ?_
  refine wp_iload_n dX11_power_4 rfl rfl ?_
  refine wp_inlV (d' := d) (S := []) (as := [vI x1]) dX11_power_5 lX11_178 (by omega) sh43 rfl rfl (Nat.le_of_ble_eq_true rfl) ⟨Nat.le_refl _, Nat.le_refl _⟩ (Mt.of2 (L := [some (vR 43), some (vI x1)]) pnX7 rfl rfl ?_)
  refine wp_iload_n dX7_braidAt_0 rfl rfl ?_
  refine wp_if_lt (tgt := 21) dX7_braidAt_1 rfl (fun c1 => ?_) (fun c1 => ?_)
  ·
    refine wp_null dX7_braidAt_21 ?_
    refine wp_areturn dX7_braidAt_22 rfl ⟨rfl, rfl⟩ ?_
    show Wp _ _ _ _ _ 8 _ [vN] _ _ _ _ _
    refine wp_astoreN dX11_power_8 (by decide) rfl ?_
    refine wp_aloadN dX11_power_10 rfl ?_
    refine wp_ifnullN (tgt := 35) dX11_power_12 rfl ?_
    refine wp_iconst dX11_power_35 (by decide) ?_
    exact wp_ireturn dX11_power_36 rfl ⟨rfl, rfl⟩ ⟨rfl, (h.1 c1)⟩
  ·
    refine wp_iload_n dX7_braidAt_4 rfl rfl ?_
    refine wp_aload_n dX7_braidAt_5 rfl rfl ?_
    refine wp_getI dX7_braidAt_6 fX7_40 rfl sh43 (by decide) ?_
    refine wp_icmp_ge (tgt := 21) dX7_braidAt_9 rfl (fun c2 => ?_) (fun c2 => ?_)
    ·
      refine wp_null dX7_braidAt_21 ?_
      refine wp_areturn dX7_braidAt_22 rfl ⟨rfl, rfl⟩ ?_
      show Wp _ _ _ _ _ 8 _ [vN] _ _ _ _ _
      refine wp_astoreN dX11_power_8 (by decide) rfl ?_
      refine wp_aloadN dX11_power_10 rfl ?_
      refine wp_ifnullN (tgt := 35) dX11_power_12 rfl ?_
      refine wp_iconst dX11_power_35 (by decide) ?_
      exact wp_ireturn dX11_power_36 rfl ⟨rfl, rfl⟩ ⟨rfl, ((h.2 c1).1 c2)⟩
    ·
      refine wp_aload_n dX7_braidAt_12 rfl rfl ?_
      refine wp_getR (b := 45) dX7_braidAt_13 fX7_19 rfl sh43 (by decide) rfl ?_
      refine wp_iload_n dX7_braidAt_16 rfl rfl ?_
      have g3 : (0 : Int) ≤ x1 ∧ x1 < (8 : Nat) := ((h.2 c1).2 c2).1
      refine wp_aald (b := (57 + 2 * Int.toNat x1)) dX7_braidAt_17 sh45 (by decide) g3 (ap_get (b := 57) (s := 2) (n := 8) g3) ?_
      refine wp_goto (tgt := 22) dX7_braidAt_18 rfl ?_
      refine wp_areturn dX7_braidAt_22 rfl ⟨rfl, rfl⟩ ?_
      show Wp _ _ _ _ _ 8 _ [vR (57 + 2 * Int.toNat x1)] _ _ _ _ _
      refine wp_astore dX11_power_8 (by decide) rfl ?_
      refine wp_aload dX11_power_10 rfl ?_
      refine wp_ifnull dX11_power_12 ?_
      refine wp_iload_n dX11_power_15 rfl rfl ?_
      refine wp_iconst dX11_power_16 (by decide) ?_
      refine wp_icmp_lt (tgt := 35) dX11_power_17 rfl (fun c4 => ?_) (fun c4 => ?_)
      ·
        refine wp_iconst dX11_power_35 (by decide) ?_
        exact wp_ireturn dX11_power_36 rfl ⟨rfl, rfl⟩ ⟨rfl, (((h.2 c1).2 c2).2.1 c4)⟩
      ·
        refine wp_iload_n dX11_power_20 rfl rfl ?_
        refine wp_bipush dX11_power_21 (by decide) ?_
        refine wp_icmp_gt (tgt := 35) dX11_power_23 rfl (fun c5 => ?_) (fun c5 => ?_)
        ·
          refine wp_iconst dX11_power_35 (by decide) ?_
          exact wp_ireturn dX11_power_36 rfl ⟨rfl, rfl⟩ ⟨rfl, ((((h.2 c1).2 c2).2.2 c4).1 c5)⟩
        ·
          refine wp_aload dX11_power_26 rfl ?_
          refine wp_iload_n dX11_power_28 rfl rfl ?_
          refine wp_callV (S := []) (as := [vI x3]) dX11_power_29 lX11_318 (((((h.2 c1).2 c2).2.2 c4).2 c5)) (by omega) (obj45 g3).1 rfl rfl (Nat.le_of_ble_eq_true rfl) ⟨Nat.le_refl _, Nat.le_refl _⟩ ?_
          rintro _ _ V6 ⟨rfl, z6, rfl, q6⟩
          show Wp _ _ _ _ _ 32 _ [vI z6] _ _ _ _ _
          refine wp_if_ne (tgt := 37) dX11_power_32 rfl (fun c7 => ?_) (fun c7 => ?_)
          ·
            refine wp_aload_n dX11_power_37 rfl rfl ?_
            refine wp_getR (b := 204) dX11_power_38 fX11_90 rfl sh0 (by decide) rfl ?_
            refine wp_aload dX11_power_41 rfl ?_
            refine wp_iload_n dX11_power_43 rfl rfl ?_
            refine wp_callV (S := []) (as := [vR (57 + 2 * Int.toNat x1), vI x2]) dX11_power_44 lX11_339 ((q6.1 c7)) (by omega) sh204 rfl rfl (Nat.le_of_ble_eq_true rfl) ⟨Nat.le_refl _, Nat.le_refl _⟩ ?_
            rintro _ _ V8 ⟨rfl, z8, rfl, q8⟩
            show Wp _ _ _ _ _ 47 _ [vI z8] _ _ _ _ _
            refine wp_pop dX11_power_47 rfl ?_
            refine wp_aload_n dX11_power_48 rfl rfl ?_
            refine wp_getR (b := 204) dX11_power_49 fX11_90 rfl sh0 (by decide) rfl ?_
            refine wp_getR (b := 207) dX11_power_52 fX11_343 rfl sh204 (by decide) rfl ?_
            refine wp_getR (b := 208) dX11_power_55 fX11_321 rfl sh207 (by decide) rfl ?_
            refine wp_iload_n dX11_power_58 rfl rfl ?_
            refine wp_iald dX11_power_59 sh208 q8.1 ?_
            exact wp_ireturn dX11_power_60 rfl ⟨rfl, rfl⟩ ⟨rfl, q8.2⟩
          ·
            refine wp_iconst dX11_power_35 (by decide) ?_
            exact wp_ireturn dX11_power_36 rfl ⟨rfl, rfl⟩ ⟨rfl, (q6.2 c7)⟩
set_option maxHeartbeats 4000000 in
set_option maxRecDepth 10000 in
theorem sX11_settles {K : KK} {d : Nat} {V : Mem} {Q : Option AV → Mem → Prop} (x1 : Int) (h : ((x1 < 0 → Q (some (vI (-1))) V) ∧ (¬ (x1 < 0) → (((V 43 6) ≤ x1 → Q (some (vI (-1))) V) ∧ (¬ ((V 43 6) ≤ x1) → (((0 : Int) ≤ x1 ∧ x1 < (8 : Nat)) ∧ Mf K d mX2_raise [vR 204, vR (57 + 2 * Int.toNat x1), vI 21] V (fun r V4 => ∃ z4, r = some (vI z4) ∧ ((20 < z4 → Q (some (vI (-1))) V4) ∧ (¬ (20 < z4) → Q (some (vI z4)) V4))))))))) : Mf K (d + 1) mX11_settles [vR 0, vI x1] V Q := by
  refine Mt.of2 (L := [some (vR 0), some (vI x1), none, none]) pnX11 rfl rfl ?_
  refine wp_aload_n dX11_settles_0 rfl rfl ?_
  refine wp_getR (b := 43) dX11_settles_1 fX11_26 rfl sh0 (by decide) rfl ?_
  refine wp_iload_n dX11_settles_4 rfl rfl ?_
  refine wp_inlV (d' := d) (S := []) (as := [vI x1]) dX11_settles_5 lX11_178 (by omega) sh43 rfl rfl (Nat.le_of_ble_eq_true rfl) ⟨Nat.le_refl _, Nat.le_refl _⟩ (Mt.of2 (L := [some (vR 43), some (vI x1)]) pnX7 rfl rfl ?_)
  refine wp_iload_n dX7_braidAt_0 rfl rfl ?_
  refine wp_if_lt (tgt := 21) dX7_braidAt_1 rfl (fun c1 => ?_) (fun c1 => ?_)
  ·
    refine wp_null dX7_braidAt_21 ?_
    refine wp_areturn dX7_braidAt_22 rfl ⟨rfl, rfl⟩ ?_
    show Wp _ _ _ _ _ 8 _ [vN] _ _ _ _ _
    refine wp_astore_nN dX11_settles_8 rfl (by decide) rfl ?_
    refine wp_aload_nN dX11_settles_9 rfl rfl ?_
    refine wp_ifnonnullN dX11_settles_10 ?_
    refine wp_iconst dX11_settles_13 (by decide) ?_
    exact wp_ireturn dX11_settles_14 rfl ⟨rfl, rfl⟩ ⟨rfl, (h.1 c1)⟩
  ·
    refine wp_iload_n dX7_braidAt_4 rfl rfl ?_
    refine wp_aload_n dX7_braidAt_5 rfl rfl ?_
    refine wp_getI dX7_braidAt_6 fX7_40 rfl sh43 (by decide) ?_
    refine wp_icmp_ge (tgt := 21) dX7_braidAt_9 rfl (fun c2 => ?_) (fun c2 => ?_)
    ·
      refine wp_null dX7_braidAt_21 ?_
      refine wp_areturn dX7_braidAt_22 rfl ⟨rfl, rfl⟩ ?_
      show Wp _ _ _ _ _ 8 _ [vN] _ _ _ _ _
      refine wp_astore_nN dX11_settles_8 rfl (by decide) rfl ?_
      refine wp_aload_nN dX11_settles_9 rfl rfl ?_
      refine wp_ifnonnullN dX11_settles_10 ?_
      refine wp_iconst dX11_settles_13 (by decide) ?_
      exact wp_ireturn dX11_settles_14 rfl ⟨rfl, rfl⟩ ⟨rfl, ((h.2 c1).1 c2)⟩
    ·
      refine wp_aload_n dX7_braidAt_12 rfl rfl ?_
      refine wp_getR (b := 45) dX7_braidAt_13 fX7_19 rfl sh43 (by decide) rfl ?_
      refine wp_iload_n dX7_braidAt_16 rfl rfl ?_
      have g3 : (0 : Int) ≤ x1 ∧ x1 < (8 : Nat) := ((h.2 c1).2 c2).1
      refine wp_aald (b := (57 + 2 * Int.toNat x1)) dX7_braidAt_17 sh45 (by decide) g3 (ap_get (b := 57) (s := 2) (n := 8) g3) ?_
      refine wp_goto (tgt := 22) dX7_braidAt_18 rfl ?_
      refine wp_areturn dX7_braidAt_22 rfl ⟨rfl, rfl⟩ ?_
      show Wp _ _ _ _ _ 8 _ [vR (57 + 2 * Int.toNat x1)] _ _ _ _ _
      refine wp_astore_n dX11_settles_8 rfl (by decide) rfl ?_
      refine wp_aload_n dX11_settles_9 rfl rfl ?_
      refine wp_ifnonnull (tgt := 15) dX11_settles_10 rfl ?_
      refine wp_aload_n dX11_settles_15 rfl rfl ?_
      refine wp_getR (b := 204) dX11_settles_16 fX11_90 rfl sh0 (by decide) rfl ?_
      refine wp_aload_n dX11_settles_19 rfl rfl ?_
      refine wp_bipush dX11_settles_20 (by decide) ?_
      refine wp_callV (S := []) (as := [vR (57 + 2 * Int.toNat x1), vI 21]) dX11_settles_22 lX11_339 (((h.2 c1).2 c2).2) (by omega) sh204 rfl rfl (Nat.le_of_ble_eq_true rfl) ⟨Nat.le_refl _, Nat.le_refl _⟩ ?_
      rintro _ _ V4 ⟨rfl, z4, rfl, q4⟩
      show Wp _ _ _ _ _ 25 _ [vI z4] _ _ _ _ _
      refine wp_istore_n dX11_settles_25 rfl (by decide) rfl ?_
      refine wp_iload_n dX11_settles_26 rfl rfl ?_
      refine wp_bipush dX11_settles_27 (by decide) ?_
      refine wp_icmp_gt (tgt := 36) dX11_settles_29 rfl (fun c5 => ?_) (fun c5 => ?_)
      ·
        refine wp_iconst dX11_settles_36 (by decide) ?_
        exact wp_ireturn dX11_settles_37 rfl ⟨rfl, rfl⟩ ⟨rfl, (q4.1 c5)⟩
      ·
        refine wp_iload_n dX11_settles_32 rfl rfl ?_
        refine wp_goto (tgt := 37) dX11_settles_33 rfl ?_
        exact wp_ireturn dX11_settles_37 rfl ⟨rfl, rfl⟩ ⟨rfl, (q4.2 c5)⟩
set_option maxHeartbeats 4000000 in
set_option maxRecDepth 10000 in
theorem sX11_knit {K : KK} {d : Nat} {V : Mem} {Q : Option AV → Mem → Prop} (x1 : Int) (x2 : Int) (h : ((x1 < 0 → Q (some (vI (-1))) V) ∧ (¬ (x1 < 0) → (((V 43 6) ≤ x1 → Q (some (vI (-1))) V) ∧ (¬ ((V 43 6) ≤ x1) → (((0 : Int) ≤ x1 ∧ x1 < (8 : Nat)) ∧ ((x2 < 0 → Q (some (vI (-1))) V) ∧ (¬ (x2 < 0) → ((x2 < 45 → Mf K d mX2_knitStep [vR 204, vR (57 + 2 * Int.toNat x1), vI x2] V (fun r V6 => ∃ z6, r = some (vI z6) ∧ Q (some (vI z6)) V6)) ∧ (¬ (x2 < 45) → Q (some (vI (-1))) V)))))))))) : Mf K (d + 1) mX11_knit [vR 0, vI x1, vI x2] V Q := by
  refine Mt.of2 (L := [some (vR 0), some (vI x1), some (vI x2), none]) pnX11 rfl rfl ?_
  refine wp_aload_n dX11_knit_0 rfl rfl ?_
  refine wp_getR (b := 43) dX11_knit_1 fX11_26 rfl sh0 (by decide) rfl ?_
  refine wp_iload_n dX11_knit_4 rfl rfl ?_
  refine wp_inlV (d' := d) (S := []) (as := [vI x1]) dX11_knit_5 lX11_178 (by omega) sh43 rfl rfl (Nat.le_of_ble_eq_true rfl) ⟨Nat.le_refl _, Nat.le_refl _⟩ (Mt.of2 (L := [some (vR 43), some (vI x1)]) pnX7 rfl rfl ?_)
  refine wp_iload_n dX7_braidAt_0 rfl rfl ?_
  refine wp_if_lt (tgt := 21) dX7_braidAt_1 rfl (fun c1 => ?_) (fun c1 => ?_)
  ·
    refine wp_null dX7_braidAt_21 ?_
    refine wp_areturn dX7_braidAt_22 rfl ⟨rfl, rfl⟩ ?_
    show Wp _ _ _ _ _ 8 _ [vN] _ _ _ _ _
    refine wp_astore_nN dX11_knit_8 rfl (by decide) rfl ?_
    refine wp_aload_nN dX11_knit_9 rfl rfl ?_
    refine wp_ifnullN (tgt := 23) dX11_knit_10 rfl ?_
    refine wp_iconst dX11_knit_23 (by decide) ?_
    exact wp_ireturn dX11_knit_24 rfl ⟨rfl, rfl⟩ ⟨rfl, (h.1 c1)⟩
  ·
    refine wp_iload_n dX7_braidAt_4 rfl rfl ?_
    refine wp_aload_n dX7_braidAt_5 rfl rfl ?_
    refine wp_getI dX7_braidAt_6 fX7_40 rfl sh43 (by decide) ?_
    refine wp_icmp_ge (tgt := 21) dX7_braidAt_9 rfl (fun c2 => ?_) (fun c2 => ?_)
    ·
      refine wp_null dX7_braidAt_21 ?_
      refine wp_areturn dX7_braidAt_22 rfl ⟨rfl, rfl⟩ ?_
      show Wp _ _ _ _ _ 8 _ [vN] _ _ _ _ _
      refine wp_astore_nN dX11_knit_8 rfl (by decide) rfl ?_
      refine wp_aload_nN dX11_knit_9 rfl rfl ?_
      refine wp_ifnullN (tgt := 23) dX11_knit_10 rfl ?_
      refine wp_iconst dX11_knit_23 (by decide) ?_
      exact wp_ireturn dX11_knit_24 rfl ⟨rfl, rfl⟩ ⟨rfl, ((h.2 c1).1 c2)⟩
    ·
      refine wp_aload_n dX7_braidAt_12 rfl rfl ?_
      refine wp_getR (b := 45) dX7_braidAt_13 fX7_19 rfl sh43 (by decide) rfl ?_
      refine wp_iload_n dX7_braidAt_16 rfl rfl ?_
      have g3 : (0 : Int) ≤ x1 ∧ x1 < (8 : Nat) := ((h.2 c1).2 c2).1
      refine wp_aald (b := (57 + 2 * Int.toNat x1)) dX7_braidAt_17 sh45 (by decide) g3 (ap_get (b := 57) (s := 2) (n := 8) g3) ?_
      refine wp_goto (tgt := 22) dX7_braidAt_18 rfl ?_
      refine wp_areturn dX7_braidAt_22 rfl ⟨rfl, rfl⟩ ?_
      show Wp _ _ _ _ _ 8 _ [vR (57 + 2 * Int.toNat x1)] _ _ _ _ _
      refine wp_astore_n dX11_knit_8 rfl (by decide) rfl ?_
      refine wp_aload_n dX11_knit_9 rfl rfl ?_
      refine wp_ifnull dX11_knit_10 ?_
      refine wp_iload_n dX11_knit_13 rfl rfl ?_
      refine wp_if_lt (tgt := 23) dX11_knit_14 rfl (fun c4 => ?_) (fun c4 => ?_)
      ·
        refine wp_iconst dX11_knit_23 (by decide) ?_
        exact wp_ireturn dX11_knit_24 rfl ⟨rfl, rfl⟩ ⟨rfl, (((h.2 c1).2 c2).2.1 c4)⟩
      ·
        refine wp_iload_n dX11_knit_17 rfl rfl ?_
        refine wp_bipush dX11_knit_18 (by decide) ?_
        refine wp_icmp_lt (tgt := 25) dX11_knit_20 rfl (fun c5 => ?_) (fun c5 => ?_)
        ·
          refine wp_aload_n dX11_knit_25 rfl rfl ?_
          refine wp_getR (b := 204) dX11_knit_26 fX11_90 rfl sh0 (by decide) rfl ?_
          refine wp_aload_n dX11_knit_29 rfl rfl ?_
          refine wp_iload_n dX11_knit_30 rfl rfl ?_
          refine wp_callV (S := []) (as := [vR (57 + 2 * Int.toNat x1), vI x2]) dX11_knit_31 lX11_346 (((((h.2 c1).2 c2).2.2 c4).1 c5)) (by omega) sh204 rfl rfl (Nat.le_of_ble_eq_true rfl) ⟨Nat.le_refl _, Nat.le_refl _⟩ ?_
          rintro _ _ V6 ⟨rfl, z6, rfl, q6⟩
          show Wp _ _ _ _ _ 34 _ [vI z6] _ _ _ _ _
          exact wp_ireturn dX11_knit_34 rfl ⟨rfl, rfl⟩ ⟨rfl, q6⟩
        ·
          refine wp_iconst dX11_knit_23 (by decide) ?_
          exact wp_ireturn dX11_knit_24 rfl ⟨rfl, rfl⟩ ⟨rfl, ((((h.2 c1).2 c2).2.2 c4).2 c5)⟩
set_option maxHeartbeats 4000000 in
set_option maxRecDepth 10000 in
theorem sX11_below {K : KK} {d : Nat} {V : Mem} {Q : Option AV → Mem → Prop} (x1 : Int) (x2 : Int) (h : ((x1 < 0 → ((x2 < 0 → Q (some (vI 0)) V) ∧ (¬ (x2 < 0) → (((V 43 6) ≤ x2 → Q (some (vI 0)) V) ∧ (¬ ((V 43 6) ≤ x2) → (((0 : Int) ≤ x2 ∧ x2 < (8 : Nat)) ∧ Q (some (vI 0)) V)))))) ∧ (¬ (x1 < 0) → (((V 43 6) ≤ x1 → ((x2 < 0 → Q (some (vI 0)) V) ∧ (¬ (x2 < 0) → (((V 43 6) ≤ x2 → Q (some (vI 0)) V) ∧ (¬ ((V 43 6) ≤ x2) → (((0 : Int) ≤ x2 ∧ x2 < (8 : Nat)) ∧ Q (some (vI 0)) V)))))) ∧ (¬ ((V 43 6) ≤ x1) → (((0 : Int) ≤ x1 ∧ x1 < (8 : Nat)) ∧ ((x2 < 0 → Q (some (vI 0)) V) ∧ (¬ (x2 < 0) → (((V 43 6) ≤ x2 → Q (some (vI 0)) V) ∧ (¬ ((V 43 6) ≤ x2) → (((0 : Int) ≤ x2 ∧ x2 < (8 : Nat)) ∧ ((¬ (V (57 + 2 * Int.toNat x1) 2) = (V (57 + 2 * Int.toNat x2) 2) → Q (some (vI 0)) V) ∧ ((V (57 + 2 * Int.toNat x1) 2) = (V (57 + 2 * Int.toNat x2) 2) → Mf K d mX2_isUnder [vR 204, vR (57 + 2 * Int.toNat x1), vR (57 + 2 * Int.toNat x2)] V (fun r V24 => ∃ z24, r = some (vI z24) ∧ ((z24 = 0 → Q (some (vI 0)) V24) ∧ (¬ (z24 = 0) → Q (some (vI 1)) V24)))))))))))))))) : Mf K (d + 1) mX11_below [vR 0, vI x1, vI x2] V Q := by
  refine Mt.of2 (L := [some (vR 0), some (vI x1), some (vI x2), none, none]) pnX11 rfl rfl ?_
  refine wp_aload_n dX11_below_0 rfl rfl ?_
  refine wp_getR (b := 43) dX11_below_1 fX11_26 rfl sh0 (by decide) rfl ?_
  refine wp_iload_n dX11_below_4 rfl rfl ?_
  refine wp_inlV (d' := d) (S := []) (as := [vI x1]) dX11_below_5 lX11_178 (by omega) sh43 rfl rfl (Nat.le_of_ble_eq_true rfl) ⟨Nat.le_refl _, Nat.le_refl _⟩ (Mt.of2 (L := [some (vR 43), some (vI x1)]) pnX7 rfl rfl ?_)
  refine wp_iload_n dX7_braidAt_0 rfl rfl ?_
  refine wp_if_lt (tgt := 21) dX7_braidAt_1 rfl (fun c1 => ?_) (fun c1 => ?_)
  ·
    refine wp_null dX7_braidAt_21 ?_
    refine wp_areturn dX7_braidAt_22 rfl ⟨rfl, rfl⟩ ?_
    show Wp _ _ _ _ _ 8 _ [vN] _ _ _ _ _
    refine wp_astore_nN dX11_below_8 rfl (by decide) rfl ?_
    refine wp_aload_n dX11_below_9 rfl rfl ?_
    refine wp_getR (b := 43) dX11_below_10 fX11_26 rfl sh0 (by decide) rfl ?_
    refine wp_iload_n dX11_below_13 rfl rfl ?_
    refine wp_inlV (d' := d) (S := []) (as := [vI x2]) dX11_below_14 lX11_178 (by omega) sh43 rfl rfl (Nat.le_of_ble_eq_true rfl) ⟨Nat.le_refl _, Nat.le_refl _⟩ (Mt.of2 (L := [some (vR 43), some (vI x2)]) pnX7 rfl rfl ?_)
    refine wp_iload_n dX7_braidAt_0 rfl rfl ?_
    refine wp_if_lt (tgt := 21) dX7_braidAt_1 rfl (fun c2 => ?_) (fun c2 => ?_)
    ·
      refine wp_null dX7_braidAt_21 ?_
      refine wp_areturn dX7_braidAt_22 rfl ⟨rfl, rfl⟩ ?_
      show Wp _ _ _ _ _ 17 _ [vN] _ _ _ _ _
      refine wp_astoreN dX11_below_17 (by decide) rfl ?_
      refine wp_aload_nN dX11_below_19 rfl rfl ?_
      refine wp_aloadN dX11_below_20 rfl ?_
      refine wp_inlS (d' := d) (S := []) (as := [vN, vN]) dX11_below_22 lX11_327 (by omega) rfl rfl (Nat.le_of_ble_eq_true rfl) ⟨Nat.le_refl _, Nat.le_refl _⟩ (Mt.of2 (L := [some vN, some vN]) pnX11 rfl rfl ?_)
      refine wp_aload_nN dX11_areAlike_0 rfl rfl ?_
      refine wp_ifnullN (tgt := 23) dX11_areAlike_1 rfl ?_
      refine wp_iconst dX11_areAlike_23 (by decide) ?_
      refine wp_zreturn dX11_areAlike_24 rfl ⟨rfl, rfl⟩ (by decide) ?_
      show Wp _ _ _ _ _ 25 _ [vI 0] _ _ _ _ _
      refine wp_if_eq (tgt := 45) dX11_below_25 rfl (fun c3 => ?_) (fun c3 => False.elim (by revert c3; decide))
      refine wp_iconst dX11_below_45 (by decide) ?_
      exact wp_zreturn dX11_below_46 rfl ⟨rfl, rfl⟩ (by decide) ⟨rfl, ((h.1 c1).1 c2)⟩
    ·
      refine wp_iload_n dX7_braidAt_4 rfl rfl ?_
      refine wp_aload_n dX7_braidAt_5 rfl rfl ?_
      refine wp_getI dX7_braidAt_6 fX7_40 rfl sh43 (by decide) ?_
      refine wp_icmp_ge (tgt := 21) dX7_braidAt_9 rfl (fun c4 => ?_) (fun c4 => ?_)
      ·
        refine wp_null dX7_braidAt_21 ?_
        refine wp_areturn dX7_braidAt_22 rfl ⟨rfl, rfl⟩ ?_
        show Wp _ _ _ _ _ 17 _ [vN] _ _ _ _ _
        refine wp_astoreN dX11_below_17 (by decide) rfl ?_
        refine wp_aload_nN dX11_below_19 rfl rfl ?_
        refine wp_aloadN dX11_below_20 rfl ?_
        refine wp_inlS (d' := d) (S := []) (as := [vN, vN]) dX11_below_22 lX11_327 (by omega) rfl rfl (Nat.le_of_ble_eq_true rfl) ⟨Nat.le_refl _, Nat.le_refl _⟩ (Mt.of2 (L := [some vN, some vN]) pnX11 rfl rfl ?_)
        refine wp_aload_nN dX11_areAlike_0 rfl rfl ?_
        refine wp_ifnullN (tgt := 23) dX11_areAlike_1 rfl ?_
        refine wp_iconst dX11_areAlike_23 (by decide) ?_
        refine wp_zreturn dX11_areAlike_24 rfl ⟨rfl, rfl⟩ (by decide) ?_
        show Wp _ _ _ _ _ 25 _ [vI 0] _ _ _ _ _
        refine wp_if_eq (tgt := 45) dX11_below_25 rfl (fun c5 => ?_) (fun c5 => False.elim (by revert c5; decide))
        refine wp_iconst dX11_below_45 (by decide) ?_
        exact wp_zreturn dX11_below_46 rfl ⟨rfl, rfl⟩ (by decide) ⟨rfl, (((h.1 c1).2 c2).1 c4)⟩
      ·
        refine wp_aload_n dX7_braidAt_12 rfl rfl ?_
        refine wp_getR (b := 45) dX7_braidAt_13 fX7_19 rfl sh43 (by decide) rfl ?_
        refine wp_iload_n dX7_braidAt_16 rfl rfl ?_
        have g6 : (0 : Int) ≤ x2 ∧ x2 < (8 : Nat) := (((h.1 c1).2 c2).2 c4).1
        refine wp_aald (b := (57 + 2 * Int.toNat x2)) dX7_braidAt_17 sh45 (by decide) g6 (ap_get (b := 57) (s := 2) (n := 8) g6) ?_
        refine wp_goto (tgt := 22) dX7_braidAt_18 rfl ?_
        refine wp_areturn dX7_braidAt_22 rfl ⟨rfl, rfl⟩ ?_
        show Wp _ _ _ _ _ 17 _ [vR (57 + 2 * Int.toNat x2)] _ _ _ _ _
        refine wp_astore dX11_below_17 (by decide) rfl ?_
        refine wp_aload_nN dX11_below_19 rfl rfl ?_
        refine wp_aload dX11_below_20 rfl ?_
        refine wp_inlS (d' := d) (S := []) (as := [vN, vR (57 + 2 * Int.toNat x2)]) dX11_below_22 lX11_327 (by omega) rfl rfl (Nat.le_of_ble_eq_true rfl) ⟨Nat.le_refl _, Nat.le_refl _⟩ (Mt.of2 (L := [some vN, some (vR (57 + 2 * Int.toNat x2))]) pnX11 rfl rfl ?_)
        refine wp_aload_nN dX11_areAlike_0 rfl rfl ?_
        refine wp_ifnullN (tgt := 23) dX11_areAlike_1 rfl ?_
        refine wp_iconst dX11_areAlike_23 (by decide) ?_
        refine wp_zreturn dX11_areAlike_24 rfl ⟨rfl, rfl⟩ (by decide) ?_
        show Wp _ _ _ _ _ 25 _ [vI 0] _ _ _ _ _
        refine wp_if_eq (tgt := 45) dX11_below_25 rfl (fun c7 => ?_) (fun c7 => False.elim (by revert c7; decide))
        refine wp_iconst dX11_below_45 (by decide) ?_
        exact wp_zreturn dX11_below_46 rfl ⟨rfl, rfl⟩ (by decide) ⟨rfl, (((h.1 c1).2 c2).2 c4).2⟩
  ·
    refine wp_iload_n dX7_braidAt_4 rfl rfl ?_
    refine wp_aload_n dX7_braidAt_5 rfl rfl ?_
    refine wp_getI dX7_braidAt_6 fX7_40 rfl sh43 (by decide) ?_
    refine wp_icmp_ge (tgt := 21) dX7_braidAt_9 rfl (fun c8 => ?_) (fun c8 => ?_)
    ·
      refine wp_null dX7_braidAt_21 ?_
      refine wp_areturn dX7_braidAt_22 rfl ⟨rfl, rfl⟩ ?_
      show Wp _ _ _ _ _ 8 _ [vN] _ _ _ _ _
      refine wp_astore_nN dX11_below_8 rfl (by decide) rfl ?_
      refine wp_aload_n dX11_below_9 rfl rfl ?_
      refine wp_getR (b := 43) dX11_below_10 fX11_26 rfl sh0 (by decide) rfl ?_
      refine wp_iload_n dX11_below_13 rfl rfl ?_
      refine wp_inlV (d' := d) (S := []) (as := [vI x2]) dX11_below_14 lX11_178 (by omega) sh43 rfl rfl (Nat.le_of_ble_eq_true rfl) ⟨Nat.le_refl _, Nat.le_refl _⟩ (Mt.of2 (L := [some (vR 43), some (vI x2)]) pnX7 rfl rfl ?_)
      refine wp_iload_n dX7_braidAt_0 rfl rfl ?_
      refine wp_if_lt (tgt := 21) dX7_braidAt_1 rfl (fun c9 => ?_) (fun c9 => ?_)
      ·
        refine wp_null dX7_braidAt_21 ?_
        refine wp_areturn dX7_braidAt_22 rfl ⟨rfl, rfl⟩ ?_
        show Wp _ _ _ _ _ 17 _ [vN] _ _ _ _ _
        refine wp_astoreN dX11_below_17 (by decide) rfl ?_
        refine wp_aload_nN dX11_below_19 rfl rfl ?_
        refine wp_aloadN dX11_below_20 rfl ?_
        refine wp_inlS (d' := d) (S := []) (as := [vN, vN]) dX11_below_22 lX11_327 (by omega) rfl rfl (Nat.le_of_ble_eq_true rfl) ⟨Nat.le_refl _, Nat.le_refl _⟩ (Mt.of2 (L := [some vN, some vN]) pnX11 rfl rfl ?_)
        refine wp_aload_nN dX11_areAlike_0 rfl rfl ?_
        refine wp_ifnullN (tgt := 23) dX11_areAlike_1 rfl ?_
        refine wp_iconst dX11_areAlike_23 (by decide) ?_
        refine wp_zreturn dX11_areAlike_24 rfl ⟨rfl, rfl⟩ (by decide) ?_
        show Wp _ _ _ _ _ 25 _ [vI 0] _ _ _ _ _
        refine wp_if_eq (tgt := 45) dX11_below_25 rfl (fun c10 => ?_) (fun c10 => False.elim (by revert c10; decide))
        refine wp_iconst dX11_below_45 (by decide) ?_
        exact wp_zreturn dX11_below_46 rfl ⟨rfl, rfl⟩ (by decide) ⟨rfl, (((h.2 c1).1 c8).1 c9)⟩
      ·
        refine wp_iload_n dX7_braidAt_4 rfl rfl ?_
        refine wp_aload_n dX7_braidAt_5 rfl rfl ?_
        refine wp_getI dX7_braidAt_6 fX7_40 rfl sh43 (by decide) ?_
        refine wp_icmp_ge (tgt := 21) dX7_braidAt_9 rfl (fun c11 => ?_) (fun c11 => ?_)
        ·
          refine wp_null dX7_braidAt_21 ?_
          refine wp_areturn dX7_braidAt_22 rfl ⟨rfl, rfl⟩ ?_
          show Wp _ _ _ _ _ 17 _ [vN] _ _ _ _ _
          refine wp_astoreN dX11_below_17 (by decide) rfl ?_
          refine wp_aload_nN dX11_below_19 rfl rfl ?_
          refine wp_aloadN dX11_below_20 rfl ?_
          refine wp_inlS (d' := d) (S := []) (as := [vN, vN]) dX11_below_22 lX11_327 (by omega) rfl rfl (Nat.le_of_ble_eq_true rfl) ⟨Nat.le_refl _, Nat.le_refl _⟩ (Mt.of2 (L := [some vN, some vN]) pnX11 rfl rfl ?_)
          refine wp_aload_nN dX11_areAlike_0 rfl rfl ?_
          refine wp_ifnullN (tgt := 23) dX11_areAlike_1 rfl ?_
          refine wp_iconst dX11_areAlike_23 (by decide) ?_
          refine wp_zreturn dX11_areAlike_24 rfl ⟨rfl, rfl⟩ (by decide) ?_
          show Wp _ _ _ _ _ 25 _ [vI 0] _ _ _ _ _
          refine wp_if_eq (tgt := 45) dX11_below_25 rfl (fun c12 => ?_) (fun c12 => False.elim (by revert c12; decide))
          refine wp_iconst dX11_below_45 (by decide) ?_
          exact wp_zreturn dX11_below_46 rfl ⟨rfl, rfl⟩ (by decide) ⟨rfl, ((((h.2 c1).1 c8).2 c9).1 c11)⟩
        ·
          refine wp_aload_n dX7_braidAt_12 rfl rfl ?_
          refine wp_getR (b := 45) dX7_braidAt_13 fX7_19 rfl sh43 (by decide) rfl ?_
          refine wp_iload_n dX7_braidAt_16 rfl rfl ?_
          have g13 : (0 : Int) ≤ x2 ∧ x2 < (8 : Nat) := ((((h.2 c1).1 c8).2 c9).2 c11).1
          refine wp_aald (b := (57 + 2 * Int.toNat x2)) dX7_braidAt_17 sh45 (by decide) g13 (ap_get (b := 57) (s := 2) (n := 8) g13) ?_
          refine wp_goto (tgt := 22) dX7_braidAt_18 rfl ?_
          refine wp_areturn dX7_braidAt_22 rfl ⟨rfl, rfl⟩ ?_
          show Wp _ _ _ _ _ 17 _ [vR (57 + 2 * Int.toNat x2)] _ _ _ _ _
          refine wp_astore dX11_below_17 (by decide) rfl ?_
          refine wp_aload_nN dX11_below_19 rfl rfl ?_
          refine wp_aload dX11_below_20 rfl ?_
          refine wp_inlS (d' := d) (S := []) (as := [vN, vR (57 + 2 * Int.toNat x2)]) dX11_below_22 lX11_327 (by omega) rfl rfl (Nat.le_of_ble_eq_true rfl) ⟨Nat.le_refl _, Nat.le_refl _⟩ (Mt.of2 (L := [some vN, some (vR (57 + 2 * Int.toNat x2))]) pnX11 rfl rfl ?_)
          refine wp_aload_nN dX11_areAlike_0 rfl rfl ?_
          refine wp_ifnullN (tgt := 23) dX11_areAlike_1 rfl ?_
          refine wp_iconst dX11_areAlike_23 (by decide) ?_
          refine wp_zreturn dX11_areAlike_24 rfl ⟨rfl, rfl⟩ (by decide) ?_
          show Wp _ _ _ _ _ 25 _ [vI 0] _ _ _ _ _
          refine wp_if_eq (tgt := 45) dX11_below_25 rfl (fun c14 => ?_) (fun c14 => False.elim (by revert c14; decide))
          refine wp_iconst dX11_below_45 (by decide) ?_
          exact wp_zreturn dX11_below_46 rfl ⟨rfl, rfl⟩ (by decide) ⟨rfl, ((((h.2 c1).1 c8).2 c9).2 c11).2⟩
    ·
      refine wp_aload_n dX7_braidAt_12 rfl rfl ?_
      refine wp_getR (b := 45) dX7_braidAt_13 fX7_19 rfl sh43 (by decide) rfl ?_
      refine wp_iload_n dX7_braidAt_16 rfl rfl ?_
      have g15 : (0 : Int) ≤ x1 ∧ x1 < (8 : Nat) := ((h.2 c1).2 c8).1
      refine wp_aald (b := (57 + 2 * Int.toNat x1)) dX7_braidAt_17 sh45 (by decide) g15 (ap_get (b := 57) (s := 2) (n := 8) g15) ?_
      refine wp_goto (tgt := 22) dX7_braidAt_18 rfl ?_
      refine wp_areturn dX7_braidAt_22 rfl ⟨rfl, rfl⟩ ?_
      show Wp _ _ _ _ _ 8 _ [vR (57 + 2 * Int.toNat x1)] _ _ _ _ _
      refine wp_astore_n dX11_below_8 rfl (by decide) rfl ?_
      refine wp_aload_n dX11_below_9 rfl rfl ?_
      refine wp_getR (b := 43) dX11_below_10 fX11_26 rfl sh0 (by decide) rfl ?_
      refine wp_iload_n dX11_below_13 rfl rfl ?_
      refine wp_inlV (d' := d) (S := []) (as := [vI x2]) dX11_below_14 lX11_178 (by omega) sh43 rfl rfl (Nat.le_of_ble_eq_true rfl) ⟨Nat.le_refl _, Nat.le_refl _⟩ (Mt.of2 (L := [some (vR 43), some (vI x2)]) pnX7 rfl rfl ?_)
      refine wp_iload_n dX7_braidAt_0 rfl rfl ?_
      refine wp_if_lt (tgt := 21) dX7_braidAt_1 rfl (fun c16 => ?_) (fun c16 => ?_)
      ·
        refine wp_null dX7_braidAt_21 ?_
        refine wp_areturn dX7_braidAt_22 rfl ⟨rfl, rfl⟩ ?_
        show Wp _ _ _ _ _ 17 _ [vN] _ _ _ _ _
        refine wp_astoreN dX11_below_17 (by decide) rfl ?_
        refine wp_aload_n dX11_below_19 rfl rfl ?_
        refine wp_aloadN dX11_below_20 rfl ?_
        refine wp_inlS (d' := d) (S := []) (as := [vR (57 + 2 * Int.toNat x1), vN]) dX11_below_22 lX11_327 (by omega) rfl rfl (Nat.le_of_ble_eq_true rfl) ⟨Nat.le_refl _, Nat.le_refl _⟩ (Mt.of2 (L := [some (vR (57 + 2 * Int.toNat x1)), some vN]) pnX11 rfl rfl ?_)
        refine wp_aload_n dX11_areAlike_0 rfl rfl ?_
        refine wp_ifnull dX11_areAlike_1 ?_
        refine wp_aload_nN dX11_areAlike_4 rfl rfl ?_
        refine wp_ifnullN (tgt := 23) dX11_areAlike_5 rfl ?_
        refine wp_iconst dX11_areAlike_23 (by decide) ?_
        refine wp_zreturn dX11_areAlike_24 rfl ⟨rfl, rfl⟩ (by decide) ?_
        show Wp _ _ _ _ _ 25 _ [vI 0] _ _ _ _ _
        refine wp_if_eq (tgt := 45) dX11_below_25 rfl (fun c17 => ?_) (fun c17 => False.elim (by revert c17; decide))
        refine wp_iconst dX11_below_45 (by decide) ?_
        exact wp_zreturn dX11_below_46 rfl ⟨rfl, rfl⟩ (by decide) ⟨rfl, (((h.2 c1).2 c8).2.1 c16)⟩
      ·
        refine wp_iload_n dX7_braidAt_4 rfl rfl ?_
        refine wp_aload_n dX7_braidAt_5 rfl rfl ?_
        refine wp_getI dX7_braidAt_6 fX7_40 rfl sh43 (by decide) ?_
        refine wp_icmp_ge (tgt := 21) dX7_braidAt_9 rfl (fun c18 => ?_) (fun c18 => ?_)
        ·
          refine wp_null dX7_braidAt_21 ?_
          refine wp_areturn dX7_braidAt_22 rfl ⟨rfl, rfl⟩ ?_
          show Wp _ _ _ _ _ 17 _ [vN] _ _ _ _ _
          refine wp_astoreN dX11_below_17 (by decide) rfl ?_
          refine wp_aload_n dX11_below_19 rfl rfl ?_
          refine wp_aloadN dX11_below_20 rfl ?_
          refine wp_inlS (d' := d) (S := []) (as := [vR (57 + 2 * Int.toNat x1), vN]) dX11_below_22 lX11_327 (by omega) rfl rfl (Nat.le_of_ble_eq_true rfl) ⟨Nat.le_refl _, Nat.le_refl _⟩ (Mt.of2 (L := [some (vR (57 + 2 * Int.toNat x1)), some vN]) pnX11 rfl rfl ?_)
          refine wp_aload_n dX11_areAlike_0 rfl rfl ?_
          refine wp_ifnull dX11_areAlike_1 ?_
          refine wp_aload_nN dX11_areAlike_4 rfl rfl ?_
          refine wp_ifnullN (tgt := 23) dX11_areAlike_5 rfl ?_
          refine wp_iconst dX11_areAlike_23 (by decide) ?_
          refine wp_zreturn dX11_areAlike_24 rfl ⟨rfl, rfl⟩ (by decide) ?_
          show Wp _ _ _ _ _ 25 _ [vI 0] _ _ _ _ _
          refine wp_if_eq (tgt := 45) dX11_below_25 rfl (fun c19 => ?_) (fun c19 => False.elim (by revert c19; decide))
          refine wp_iconst dX11_below_45 (by decide) ?_
          exact wp_zreturn dX11_below_46 rfl ⟨rfl, rfl⟩ (by decide) ⟨rfl, ((((h.2 c1).2 c8).2.2 c16).1 c18)⟩
        ·
          refine wp_aload_n dX7_braidAt_12 rfl rfl ?_
          refine wp_getR (b := 45) dX7_braidAt_13 fX7_19 rfl sh43 (by decide) rfl ?_
          refine wp_iload_n dX7_braidAt_16 rfl rfl ?_
          have g20 : (0 : Int) ≤ x2 ∧ x2 < (8 : Nat) := ((((h.2 c1).2 c8).2.2 c16).2 c18).1
          refine wp_aald (b := (57 + 2 * Int.toNat x2)) dX7_braidAt_17 sh45 (by decide) g20 (ap_get (b := 57) (s := 2) (n := 8) g20) ?_
          refine wp_goto (tgt := 22) dX7_braidAt_18 rfl ?_
          refine wp_areturn dX7_braidAt_22 rfl ⟨rfl, rfl⟩ ?_
          show Wp _ _ _ _ _ 17 _ [vR (57 + 2 * Int.toNat x2)] _ _ _ _ _
          refine wp_astore dX11_below_17 (by decide) rfl ?_
          refine wp_aload_n dX11_below_19 rfl rfl ?_
          refine wp_aload dX11_below_20 rfl ?_
          refine wp_inlS (d' := d) (S := []) (as := [vR (57 + 2 * Int.toNat x1), vR (57 + 2 * Int.toNat x2)]) dX11_below_22 lX11_327 (by omega) rfl rfl (Nat.le_of_ble_eq_true rfl) ⟨Nat.le_refl _, Nat.le_refl _⟩ (Mt.of2 (L := [some (vR (57 + 2 * Int.toNat x1)), some (vR (57 + 2 * Int.toNat x2))]) pnX11 rfl rfl ?_)
          refine wp_aload_n dX11_areAlike_0 rfl rfl ?_
          refine wp_ifnull dX11_areAlike_1 ?_
          refine wp_aload_n dX11_areAlike_4 rfl rfl ?_
          refine wp_ifnull dX11_areAlike_5 ?_
          refine wp_aload_n dX11_areAlike_8 rfl rfl ?_
          refine wp_getI dX11_areAlike_9 fX11_182 rfl (obj45 g15).1 (by decide) ?_
          refine wp_aload_n dX11_areAlike_12 rfl rfl ?_
          refine wp_getI dX11_areAlike_13 fX11_182 rfl (obj45 g20).1 (by decide) ?_
          refine wp_icmp_ne (tgt := 23) dX11_areAlike_16 rfl (fun c21 => ?_) (fun c21 => ?_)
          ·
            refine wp_iconst dX11_areAlike_23 (by decide) ?_
            refine wp_zreturn dX11_areAlike_24 rfl ⟨rfl, rfl⟩ (by decide) ?_
            show Wp _ _ _ _ _ 25 _ [vI 0] _ _ _ _ _
            refine wp_if_eq (tgt := 45) dX11_below_25 rfl (fun c22 => ?_) (fun c22 => False.elim (by revert c22; decide))
            refine wp_iconst dX11_below_45 (by decide) ?_
            exact wp_zreturn dX11_below_46 rfl ⟨rfl, rfl⟩ (by decide) ⟨rfl, (((((h.2 c1).2 c8).2.2 c16).2 c18).2.1 c21)⟩
          ·
            refine wp_iconst dX11_areAlike_19 (by decide) ?_
            refine wp_goto (tgt := 24) dX11_areAlike_20 rfl ?_
            refine wp_zreturn dX11_areAlike_24 rfl ⟨rfl, rfl⟩ (by decide) ?_
            show Wp _ _ _ _ _ 25 _ [vI 1] _ _ _ _ _
            refine wp_if_eq (tgt := 45) dX11_below_25 rfl (fun c23 => False.elim (by revert c23; decide)) (fun c23 => ?_)
            refine wp_aload_n dX11_below_28 rfl rfl ?_
            refine wp_getR (b := 204) dX11_below_29 fX11_90 rfl sh0 (by decide) rfl ?_
            refine wp_aload_n dX11_below_32 rfl rfl ?_
            refine wp_aload dX11_below_33 rfl ?_
            refine wp_callV (S := []) (as := [vR (57 + 2 * Int.toNat x1), vR (57 + 2 * Int.toNat x2)]) dX11_below_35 lX11_349 ((((((h.2 c1).2 c8).2.2 c16).2 c18).2.2 c21)) (by omega) sh204 rfl rfl (Nat.le_of_ble_eq_true rfl) ⟨Nat.le_refl _, Nat.le_refl _⟩ ?_
            rintro _ _ V24 ⟨rfl, z24, rfl, q24⟩
            show Wp _ _ _ _ _ 38 _ [vI z24] _ _ _ _ _
            refine wp_if_eq (tgt := 45) dX11_below_38 rfl (fun c25 => ?_) (fun c25 => ?_)
            ·
              refine wp_iconst dX11_below_45 (by decide) ?_
              exact wp_zreturn dX11_below_46 rfl ⟨rfl, rfl⟩ (by decide) ⟨rfl, (q24.1 c25)⟩
            ·
              refine wp_iconst dX11_below_41 (by decide) ?_
              refine wp_goto (tgt := 46) dX11_below_42 rfl ?_
              exact wp_zreturn dX11_below_46 rfl ⟨rfl, rfl⟩ (by decide) ⟨rfl, (q24.2 c25)⟩
set_option maxHeartbeats 4000000 in
set_option maxRecDepth 10000 in
theorem sX11_areAlike {K : KK} {d : Nat} {V : Mem} {Q : Option AV → Mem → Prop} (a0 : Nat) (a1 : Nat) (h0 : IsBraid a0) (h1 : IsBraid a1) (h : ((¬ (V a0 2) = (V a1 2) → Q (some (vI 0)) V) ∧ ((V a0 2) = (V a1 2) → Q (some (vI 1)) V))) : Mf K d mX11_areAlike [vR a0, vR a1] V Q := by
  refine Mt.of2 (L := [some (vR a0), some (vR a1)]) pnX11 rfl rfl ?_
  refine wp_aload_n dX11_areAlike_0 rfl rfl ?_
  refine wp_ifnull dX11_areAlike_1 ?_
  refine wp_aload_n dX11_areAlike_4 rfl rfl ?_
  refine wp_ifnull dX11_areAlike_5 ?_
  refine wp_aload_n dX11_areAlike_8 rfl rfl ?_
  refine wp_getI dX11_areAlike_9 fX11_182 rfl h0.1 (by decide) ?_
  refine wp_aload_n dX11_areAlike_12 rfl rfl ?_
  refine wp_getI dX11_areAlike_13 fX11_182 rfl h1.1 (by decide) ?_
  refine wp_icmp_ne (tgt := 23) dX11_areAlike_16 rfl (fun c1 => ?_) (fun c1 => ?_)
  ·
    refine wp_iconst dX11_areAlike_23 (by decide) ?_
    exact wp_zreturn dX11_areAlike_24 rfl ⟨rfl, rfl⟩ (by decide) ⟨rfl, (h.1 c1)⟩
  ·
    refine wp_iconst dX11_areAlike_19 (by decide) ?_
    refine wp_goto (tgt := 24) dX11_areAlike_20 rfl ?_
    exact wp_zreturn dX11_areAlike_24 rfl ⟨rfl, rfl⟩ (by decide) ⟨rfl, (h.2 c1)⟩
set_option maxHeartbeats 4000000 in
set_option maxRecDepth 10000 in
theorem sX11_see {K : KK} {d : Nat} {V : Mem} {Q : Option AV → Mem → Prop} (x1 : Int) (x2 : Int) (x3 : Int) (h : ((x1 < 0 → Q (some (vI 0)) V) ∧ (¬ (x1 < 0) → (((V 43 5) ≤ x1 → Q (some (vI 0)) V) ∧ (¬ ((V 43 5) ≤ x1) → (((0 : Int) ≤ x1 ∧ x1 < (4 : Nat)) ∧ ((x2 < 1 → Q (some (vI 0)) V) ∧ (¬ (x2 < 1) → ((x2 ≤ 20 → (((V 43 7) < 8 → (((0 : Int) ≤ (V 43 7) ∧ (V 43 7) < (8 : Nat)) ∧ (((0 : Int) ≤ ((upm V 46 (Int.toNat (V 43 7)) x1) 43 7) ∧ ((upm V 46 (Int.toNat (V 43 7)) x1) 43 7) < (8 : Nat)) ∧ (((0 : Int) ≤ ((upm (upm V 46 (Int.toNat (V 43 7)) x1) 47 (Int.toNat ((upm V 46 (Int.toNat (V 43 7)) x1) 43 7)) x2) 43 7) ∧ ((upm (upm V 46 (Int.toNat (V 43 7)) x1) 47 (Int.toNat ((upm V 46 (Int.toNat (V 43 7)) x1) 43 7)) x2) 43 7) < (8 : Nat)) ∧ (x3 = 0 ∨ x3 = 1) ∧ Q (some (vI 1)) (upm (upm (upm (upm V 46 (Int.toNat (V 43 7)) x1) 47 (Int.toNat ((upm V 46 (Int.toNat (V 43 7)) x1) 43 7)) x2) 48 (Int.toNat ((upm (upm V 46 (Int.toNat (V 43 7)) x1) 47 (Int.toNat ((upm V 46 (Int.toNat (V 43 7)) x1) 43 7)) x2) 43 7)) x3) 43 7 (w32 (((upm (upm (upm V 46 (Int.toNat (V 43 7)) x1) 47 (Int.toNat ((upm V 46 (Int.toNat (V 43 7)) x1) 43 7)) x2) 48 (Int.toNat ((upm (upm V 46 (Int.toNat (V 43 7)) x1) 47 (Int.toNat ((upm V 46 (Int.toNat (V 43 7)) x1) 43 7)) x2) 43 7)) x3) 43 7) + 1))))))) ∧ (¬ ((V 43 7) < 8) → Q (some (vI 0)) V))) ∧ (¬ (x2 ≤ 20) → Q (some (vI 0)) V)))))))))) : Mf K (d + 1) mX11_see [vR 0, vI x1, vI x2, vI x3] V Q := by
  refine Mt.of2 (L := [some (vR 0), some (vI x1), some (vI x2), some (vI x3)]) pnX11 rfl rfl ?_
  refine wp_aload_n dX11_see_0 rfl rfl ?_
  refine wp_getR (b := 43) dX11_see_1 fX11_26 rfl sh0 (by decide) rfl ?_
  refine wp_iload_n dX11_see_4 rfl rfl ?_
  refine wp_inlV (d' := d) (S := []) (as := [vI x1]) dX11_see_5 lX11_150 (by omega) sh43 rfl rfl (Nat.le_of_ble_eq_true rfl) ⟨Nat.le_refl _, Nat.le_refl _⟩ (Mt.of2 (L := [some (vR 43), some (vI x1)]) pnX7 rfl rfl ?_)
  refine wp_iload_n dX7_rowAt_0 rfl rfl ?_
  refine wp_if_lt (tgt := 21) dX7_rowAt_1 rfl (fun c1 => ?_) (fun c1 => ?_)
  ·
    refine wp_null dX7_rowAt_21 ?_
    refine wp_areturn dX7_rowAt_22 rfl ⟨rfl, rfl⟩ ?_
    show Wp _ _ _ _ _ 8 _ [vN] _ _ _ _ _
    refine wp_ifnullN (tgt := 22) dX11_see_8 rfl ?_
    refine wp_iconst dX11_see_22 (by decide) ?_
    exact wp_zreturn dX11_see_23 rfl ⟨rfl, rfl⟩ (by decide) ⟨rfl, (h.1 c1)⟩
  ·
    refine wp_iload_n dX7_rowAt_4 rfl rfl ?_
    refine wp_aload_n dX7_rowAt_5 rfl rfl ?_
    refine wp_getI dX7_rowAt_6 fX7_36 rfl sh43 (by decide) ?_
    refine wp_icmp_ge (tgt := 21) dX7_rowAt_9 rfl (fun c2 => ?_) (fun c2 => ?_)
    ·
      refine wp_null dX7_rowAt_21 ?_
      refine wp_areturn dX7_rowAt_22 rfl ⟨rfl, rfl⟩ ?_
      show Wp _ _ _ _ _ 8 _ [vN] _ _ _ _ _
      refine wp_ifnullN (tgt := 22) dX11_see_8 rfl ?_
      refine wp_iconst dX11_see_22 (by decide) ?_
      exact wp_zreturn dX11_see_23 rfl ⟨rfl, rfl⟩ (by decide) ⟨rfl, ((h.2 c1).1 c2)⟩
    ·
      refine wp_aload_n dX7_rowAt_12 rfl rfl ?_
      refine wp_getR (b := 44) dX7_rowAt_13 fX7_11 rfl sh43 (by decide) rfl ?_
      refine wp_iload_n dX7_rowAt_16 rfl rfl ?_
      have g3 : (0 : Int) ≤ x1 ∧ x1 < (4 : Nat) := ((h.2 c1).2 c2).1
      refine wp_aald (b := (49 + 2 * Int.toNat x1)) dX7_rowAt_17 sh44 (by decide) g3 (ap_get (b := 49) (s := 2) (n := 4) g3) ?_
      refine wp_goto (tgt := 22) dX7_rowAt_18 rfl ?_
      refine wp_areturn dX7_rowAt_22 rfl ⟨rfl, rfl⟩ ?_
      show Wp _ _ _ _ _ 8 _ [vR (49 + 2 * Int.toNat x1)] _ _ _ _ _
      refine wp_ifnull dX11_see_8 ?_
      refine wp_iload_n dX11_see_11 rfl rfl ?_
      refine wp_iconst dX11_see_12 (by decide) ?_
      refine wp_icmp_lt (tgt := 22) dX11_see_13 rfl (fun c4 => ?_) (fun c4 => ?_)
      ·
        refine wp_iconst dX11_see_22 (by decide) ?_
        exact wp_zreturn dX11_see_23 rfl ⟨rfl, rfl⟩ (by decide) ⟨rfl, (((h.2 c1).2 c2).2.1 c4)⟩
      ·
        refine wp_iload_n dX11_see_16 rfl rfl ?_
        refine wp_bipush dX11_see_17 (by decide) ?_
        refine wp_icmp_le (tgt := 24) dX11_see_19 rfl (fun c5 => ?_) (fun c5 => ?_)
        ·
          refine wp_aload_n dX11_see_24 rfl rfl ?_
          refine wp_getR (b := 43) dX11_see_25 fX11_26 rfl sh0 (by decide) rfl ?_
          refine wp_iload_n dX11_see_28 rfl rfl ?_
          refine wp_iload_n dX11_see_29 rfl rfl ?_
          refine wp_iload_n dX11_see_30 rfl rfl ?_
          refine wp_inlV (d' := d) (S := []) (as := [vI x1, vI x2, vI x3]) dX11_see_31 lX11_352 (by omega) sh43 rfl rfl (Nat.le_of_ble_eq_true rfl) ⟨Nat.le_refl _, Nat.le_refl _⟩ (Mt.of2 (L := [some (vR 43), some (vI x1), some (vI x2), some (vI x3)]) pnX7 rfl rfl ?_)
          refine wp_aload_n dX7_addSeen_0 rfl rfl ?_
          refine wp_getI dX7_addSeen_1 fX7_43 rfl sh43 (by decide) ?_
          refine wp_bipush dX7_addSeen_4 (by decide) ?_
          refine wp_icmp_lt (tgt := 11) dX7_addSeen_6 rfl (fun c6 => ?_) (fun c6 => ?_)
          ·
            refine wp_aload_n dX7_addSeen_11 rfl rfl ?_
            refine wp_getR (b := 46) dX7_addSeen_12 fX7_23 rfl sh43 (by decide) rfl ?_
            refine wp_aload_n dX7_addSeen_15 rfl rfl ?_
            refine wp_getI dX7_addSeen_16 fX7_43 rfl sh43 (by decide) ?_
            refine wp_iload_n dX7_addSeen_19 rfl rfl ?_
            refine wp_iast dX7_addSeen_20 sh46 (((((h.2 c1).2 c2).2.2 c4).1 c5).1 c6).1 ?_
            refine wp_aload_n dX7_addSeen_21 rfl rfl ?_
            refine wp_getR (b := 47) dX7_addSeen_22 fX7_27 rfl sh43 (by decide) rfl ?_
            refine wp_aload_n dX7_addSeen_25 rfl rfl ?_
            refine wp_getI dX7_addSeen_26 fX7_43 rfl sh43 (by decide) ?_
            refine wp_iload_n dX7_addSeen_29 rfl rfl ?_
            refine wp_iast dX7_addSeen_30 sh47 (((((h.2 c1).2 c2).2.2 c4).1 c5).1 c6).2.1 ?_
            refine wp_aload_n dX7_addSeen_31 rfl rfl ?_
            refine wp_getR (b := 48) dX7_addSeen_32 fX7_30 rfl sh43 (by decide) rfl ?_
            refine wp_aload_n dX7_addSeen_35 rfl rfl ?_
            refine wp_getI dX7_addSeen_36 fX7_43 rfl sh43 (by decide) ?_
            refine wp_iload_n dX7_addSeen_39 rfl rfl ?_
            refine wp_zast dX7_addSeen_40 sh48 (((((h.2 c1).2 c2).2.2 c4).1 c5).1 c6).2.2.1 (((((h.2 c1).2 c2).2.2 c4).1 c5).1 c6).2.2.2.1 ?_
            refine wp_aload_n dX7_addSeen_41 rfl rfl ?_
            refine wp_dup dX7_addSeen_42 rfl ?_
            refine wp_getI dX7_addSeen_43 fX7_43 rfl sh43 (by decide) ?_
            refine wp_iconst dX7_addSeen_46 (by decide) ?_
            refine wp_iadd dX7_addSeen_47 ?_
            refine wp_putI dX7_addSeen_48 fwX7_43 rfl sh43 (by decide) ?_
            refine wp_iconst dX7_addSeen_51 (by decide) ?_
            refine wp_zreturn dX7_addSeen_52 rfl ⟨rfl, rfl⟩ (by decide) ?_
            show Wp _ _ _ _ _ 34 _ [vI 1] _ _ _ _ _
            exact wp_zreturn dX11_see_34 rfl ⟨rfl, rfl⟩ (by decide) ⟨rfl, (((((h.2 c1).2 c2).2.2 c4).1 c5).1 c6).2.2.2.2⟩
          ·
            refine wp_iconst dX7_addSeen_9 (by decide) ?_
            refine wp_zreturn dX7_addSeen_10 rfl ⟨rfl, rfl⟩ (by decide) ?_
            show Wp _ _ _ _ _ 34 _ [vI 0] _ _ _ _ _
            exact wp_zreturn dX11_see_34 rfl ⟨rfl, rfl⟩ (by decide) ⟨rfl, (((((h.2 c1).2 c2).2.2 c4).1 c5).2 c6)⟩
        ·
          refine wp_iconst dX11_see_22 (by decide) ?_
          exact wp_zreturn dX11_see_23 rfl ⟨rfl, rfl⟩ (by decide) ⟨rfl, ((((h.2 c1).2 c2).2.2 c4).2 c5)⟩
set_option maxHeartbeats 4000000 in
set_option maxRecDepth 10000 in
theorem sX11_fits {K : KK} {d : Nat} {V : Mem} {Q : Option AV → Mem → Prop} (x1 : Int) (h : ((x1 < 0 → Q (some (vI (-1))) V) ∧ (¬ (x1 < 0) → (((V 43 5) ≤ x1 → Q (some (vI (-1))) V) ∧ (¬ ((V 43 5) ≤ x1) → (((0 : Int) ≤ x1 ∧ x1 < (4 : Nat)) ∧ Mf K d mX11_tallyFits [vR 0, vR (49 + 2 * Int.toNat x1), vI x1] V (fun r V4 => ∃ z4, r = some (vI z4) ∧ Q (some (vI z4)) V4))))))) : Mf K (d + 1) mX11_fits [vR 0, vI x1] V Q := by
  refine Mt.of2 (L := [some (vR 0), some (vI x1), none]) pnX11 rfl rfl ?_
  refine wp_aload_n dX11_fits_0 rfl rfl ?_
  refine wp_getR (b := 43) dX11_fits_1 fX11_26 rfl sh0 (by decide) rfl ?_
  refine wp_iload_n dX11_fits_4 rfl rfl ?_
  refine wp_inlV (d' := d) (S := []) (as := [vI x1]) dX11_fits_5 lX11_150 (by omega) sh43 rfl rfl (Nat.le_of_ble_eq_true rfl) ⟨Nat.le_refl _, Nat.le_refl _⟩ (Mt.of2 (L := [some (vR 43), some (vI x1)]) pnX7 rfl rfl ?_)
  refine wp_iload_n dX7_rowAt_0 rfl rfl ?_
  refine wp_if_lt (tgt := 21) dX7_rowAt_1 rfl (fun c1 => ?_) (fun c1 => ?_)
  ·
    refine wp_null dX7_rowAt_21 ?_
    refine wp_areturn dX7_rowAt_22 rfl ⟨rfl, rfl⟩ ?_
    show Wp _ _ _ _ _ 8 _ [vN] _ _ _ _ _
    refine wp_astore_nN dX11_fits_8 rfl (by decide) rfl ?_
    refine wp_aload_nN dX11_fits_9 rfl rfl ?_
    refine wp_ifnonnullN dX11_fits_10 ?_
    refine wp_iconst dX11_fits_13 (by decide) ?_
    exact wp_ireturn dX11_fits_14 rfl ⟨rfl, rfl⟩ ⟨rfl, (h.1 c1)⟩
  ·
    refine wp_iload_n dX7_rowAt_4 rfl rfl ?_
    refine wp_aload_n dX7_rowAt_5 rfl rfl ?_
    refine wp_getI dX7_rowAt_6 fX7_36 rfl sh43 (by decide) ?_
    refine wp_icmp_ge (tgt := 21) dX7_rowAt_9 rfl (fun c2 => ?_) (fun c2 => ?_)
    ·
      refine wp_null dX7_rowAt_21 ?_
      refine wp_areturn dX7_rowAt_22 rfl ⟨rfl, rfl⟩ ?_
      show Wp _ _ _ _ _ 8 _ [vN] _ _ _ _ _
      refine wp_astore_nN dX11_fits_8 rfl (by decide) rfl ?_
      refine wp_aload_nN dX11_fits_9 rfl rfl ?_
      refine wp_ifnonnullN dX11_fits_10 ?_
      refine wp_iconst dX11_fits_13 (by decide) ?_
      exact wp_ireturn dX11_fits_14 rfl ⟨rfl, rfl⟩ ⟨rfl, ((h.2 c1).1 c2)⟩
    ·
      refine wp_aload_n dX7_rowAt_12 rfl rfl ?_
      refine wp_getR (b := 44) dX7_rowAt_13 fX7_11 rfl sh43 (by decide) rfl ?_
      refine wp_iload_n dX7_rowAt_16 rfl rfl ?_
      have g3 : (0 : Int) ≤ x1 ∧ x1 < (4 : Nat) := ((h.2 c1).2 c2).1
      refine wp_aald (b := (49 + 2 * Int.toNat x1)) dX7_rowAt_17 sh44 (by decide) g3 (ap_get (b := 49) (s := 2) (n := 4) g3) ?_
      refine wp_goto (tgt := 22) dX7_rowAt_18 rfl ?_
      refine wp_areturn dX7_rowAt_22 rfl ⟨rfl, rfl⟩ ?_
      show Wp _ _ _ _ _ 8 _ [vR (49 + 2 * Int.toNat x1)] _ _ _ _ _
      refine wp_astore_n dX11_fits_8 rfl (by decide) rfl ?_
      refine wp_aload_n dX11_fits_9 rfl rfl ?_
      refine wp_ifnonnull (tgt := 15) dX11_fits_10 rfl ?_
      refine wp_aload_n dX11_fits_15 rfl rfl ?_
      refine wp_aload_n dX11_fits_16 rfl rfl ?_
      refine wp_iload_n dX11_fits_17 rfl rfl ?_
      refine wp_callV (S := []) (as := [vR (49 + 2 * Int.toNat x1), vI x1]) dX11_fits_18 lX11_356 (((h.2 c1).2 c2).2) (by omega) sh0 rfl rfl (Nat.le_of_ble_eq_true rfl) ⟨Nat.le_refl _, Nat.le_refl _⟩ ?_
      rintro _ _ V4 ⟨rfl, z4, rfl, q4⟩
      show Wp _ _ _ _ _ 21 _ [vI z4] _ _ _ _ _
      exact wp_ireturn dX11_fits_21 rfl ⟨rfl, rfl⟩ ⟨rfl, q4⟩
set_option maxHeartbeats 4000000 in
set_option maxRecDepth 10000 in
theorem sX11_first {K : KK} {d : Nat} {V : Mem} {Q : Option AV → Mem → Prop} (x1 : Int) (h : ((x1 < 0 → Q (some (vI (-1))) V) ∧ (¬ (x1 < 0) → (((V 43 5) ≤ x1 → Q (some (vI (-1))) V) ∧ (¬ ((V 43 5) ≤ x1) → (((0 : Int) ≤ x1 ∧ x1 < (4 : Nat)) ∧ Mf K d mX1_load [vR 146, vR (49 + 2 * Int.toNat x1), vR 135] V (fun r V4 => r = none ∧ Mf K d mX10_fillChains [vR 156, vR 146] V4 (fun r V5 => r = none ∧ Wf K (d + 2) mX11_first 22 [some (vR 0), some (vI x1), some (vR (49 + 2 * Int.toNat x1)), some (vI 0), none] [] V5 Q)))))))) : Mf K (d + 2) mX11_first [vR 0, vI x1] V Q := by
  refine Mt.of2 (L := [some (vR 0), some (vI x1), none, none, none]) pnX11 rfl rfl ?_
  refine wp_aload_n dX11_first_0 rfl rfl ?_
  refine wp_getR (b := 43) dX11_first_1 fX11_26 rfl sh0 (by decide) rfl ?_
  refine wp_iload_n dX11_first_4 rfl rfl ?_
  refine wp_inlV (d' := (d + 1)) (S := []) (as := [vI x1]) dX11_first_5 lX11_150 (by omega) sh43 rfl rfl (Nat.le_of_ble_eq_true rfl) ⟨Nat.le_refl _, Nat.le_refl _⟩ (Mt.of2 (L := [some (vR 43), some (vI x1)]) pnX7 rfl rfl ?_)
  refine wp_iload_n dX7_rowAt_0 rfl rfl ?_
  refine wp_if_lt (tgt := 21) dX7_rowAt_1 rfl (fun c1 => ?_) (fun c1 => ?_)
  ·
    refine wp_null dX7_rowAt_21 ?_
    refine wp_areturn dX7_rowAt_22 rfl ⟨rfl, rfl⟩ ?_
    show Wp _ _ _ _ _ 8 _ [vN] _ _ _ _ _
    refine wp_astore_nN dX11_first_8 rfl (by decide) rfl ?_
    refine wp_aload_nN dX11_first_9 rfl rfl ?_
    refine wp_ifnonnullN dX11_first_10 ?_
    refine wp_iconst dX11_first_13 (by decide) ?_
    exact wp_ireturn dX11_first_14 rfl ⟨rfl, rfl⟩ ⟨rfl, (h.1 c1)⟩
  ·
    refine wp_iload_n dX7_rowAt_4 rfl rfl ?_
    refine wp_aload_n dX7_rowAt_5 rfl rfl ?_
    refine wp_getI dX7_rowAt_6 fX7_36 rfl sh43 (by decide) ?_
    refine wp_icmp_ge (tgt := 21) dX7_rowAt_9 rfl (fun c2 => ?_) (fun c2 => ?_)
    ·
      refine wp_null dX7_rowAt_21 ?_
      refine wp_areturn dX7_rowAt_22 rfl ⟨rfl, rfl⟩ ?_
      show Wp _ _ _ _ _ 8 _ [vN] _ _ _ _ _
      refine wp_astore_nN dX11_first_8 rfl (by decide) rfl ?_
      refine wp_aload_nN dX11_first_9 rfl rfl ?_
      refine wp_ifnonnullN dX11_first_10 ?_
      refine wp_iconst dX11_first_13 (by decide) ?_
      exact wp_ireturn dX11_first_14 rfl ⟨rfl, rfl⟩ ⟨rfl, ((h.2 c1).1 c2)⟩
    ·
      refine wp_aload_n dX7_rowAt_12 rfl rfl ?_
      refine wp_getR (b := 44) dX7_rowAt_13 fX7_11 rfl sh43 (by decide) rfl ?_
      refine wp_iload_n dX7_rowAt_16 rfl rfl ?_
      have g3 : (0 : Int) ≤ x1 ∧ x1 < (4 : Nat) := ((h.2 c1).2 c2).1
      refine wp_aald (b := (49 + 2 * Int.toNat x1)) dX7_rowAt_17 sh44 (by decide) g3 (ap_get (b := 49) (s := 2) (n := 4) g3) ?_
      refine wp_goto (tgt := 22) dX7_rowAt_18 rfl ?_
      refine wp_areturn dX7_rowAt_22 rfl ⟨rfl, rfl⟩ ?_
      show Wp _ _ _ _ _ 8 _ [vR (49 + 2 * Int.toNat x1)] _ _ _ _ _
      refine wp_astore_n dX11_first_8 rfl (by decide) rfl ?_
      refine wp_aload_n dX11_first_9 rfl rfl ?_
      refine wp_ifnonnull (tgt := 15) dX11_first_10 rfl ?_
      refine wp_aload_n dX11_first_15 rfl rfl ?_
      refine wp_aload_n dX11_first_16 rfl rfl ?_
      refine wp_inlV (d' := (d + 1)) (S := []) (as := [vR (49 + 2 * Int.toNat x1)]) dX11_first_17 lX11_285 (by omega) sh0 rfl rfl (Nat.le_of_ble_eq_true rfl) ⟨Nat.le_refl _, Nat.le_refl _⟩ (Mt.of2 (L := [some (vR 0), some (vR (49 + 2 * Int.toNat x1))]) pnX11 rfl rfl ?_)
      refine wp_aload_n dX11_fillWindows_0 rfl rfl ?_
      refine wp_getR (b := 146) dX11_fillWindows_1 fX11_66 rfl sh0 (by decide) rfl ?_
      refine wp_aload_n dX11_fillWindows_4 rfl rfl ?_
      refine wp_aload_n dX11_fillWindows_5 rfl rfl ?_
      refine wp_getR (b := 135) dX11_fillWindows_6 fX11_47 rfl sh0 (by decide) rfl ?_
      refine wp_callV (S := []) (as := [vR (49 + 2 * Int.toNat x1), vR 135]) dX11_fillWindows_9 lX11_267 (((h.2 c1).2 c2).2) (by omega) sh146 rfl rfl (Nat.le_of_ble_eq_true rfl) ⟨Nat.le_refl _, Nat.le_refl _⟩ ?_
      rintro _ _ V4 ⟨rfl, rfl, q4⟩
      show Wp _ _ _ _ _ 12 _ [] _ _ _ _ _
      refine wp_aload_n dX11_fillWindows_12 rfl rfl ?_
      refine wp_getR (b := 156) dX11_fillWindows_13 fX11_76 rfl sh0 (by decide) rfl ?_
      refine wp_aload_n dX11_fillWindows_16 rfl rfl ?_
      refine wp_getR (b := 146) dX11_fillWindows_17 fX11_66 rfl sh0 (by decide) rfl ?_
      refine wp_callV (S := []) (as := [vR 146]) dX11_fillWindows_20 lX11_304 (q4) (by omega) sh156 rfl rfl (Nat.le_of_ble_eq_true rfl) ⟨Nat.le_refl _, Nat.le_refl _⟩ ?_
      rintro _ _ V5 ⟨rfl, rfl, q5⟩
      show Wp _ _ _ _ _ 23 _ [] _ _ _ _ _
      refine wp_return dX11_fillWindows_23 rfl ⟨rfl, rfl⟩ ?_
      show Wp _ _ _ _ _ 20 _ [] _ _ _ _ _
      refine wp_iconst dX11_first_20 (by decide) ?_
      refine wp_istore_n dX11_first_21 rfl (by decide) rfl ?_
      exact q5
set_option maxHeartbeats 4000000 in
set_option maxRecDepth 10000 in
theorem sX11_first_22 {K : KK} {d : Nat} {V : Mem} {Q : Option AV → Mem → Prop} (x1 : Int) (a2 : Nat) (x3 : Int) (h2 : IsRow a2) (h : (((V a2 3) ≤ x3 → Q (some (vI (-1))) V) ∧ (¬ ((V a2 3) ≤ x3) → Wf K (d + 2) mX11_first 35 [some (vR 0), some (vI x1), some (vR a2), some (vI x3), some (vI (w32 (x3 + 1)))] [] V Q))) : Wf K (d + 2) mX11_first 22 [some (vR 0), some (vI x1), some (vR a2), some (vI x3), none] [] V Q := by
  refine wp_iload_n dX11_first_22 rfl rfl ?_
  refine wp_aload_n dX11_first_23 rfl rfl ?_
  refine wp_getI dX11_first_24 fX11_157 rfl h2.1 (by decide) ?_
  refine wp_icmp_ge (tgt := 85) dX11_first_27 rfl (fun c1 => ?_) (fun c1 => ?_)
  ·
    refine wp_iconst dX11_first_85 (by decide) ?_
    exact wp_ireturn dX11_first_86 rfl ⟨rfl, rfl⟩ ⟨rfl, (h.1 c1)⟩
  ·
    refine wp_iload_n dX11_first_30 rfl rfl ?_
    refine wp_iconst dX11_first_31 (by decide) ?_
    refine wp_iadd dX11_first_32 ?_
    refine wp_istore dX11_first_33 (by decide) rfl ?_
    exact (h.2 c1)
set_option maxHeartbeats 4000000 in
set_option maxRecDepth 10000 in
theorem sX11_first_35 {K : KK} {d : Nat} {V : Mem} {Q : Option AV → Mem → Prop} (x1 : Int) (a2 : Nat) (x3 : Int) (x4 : Int) (h2 : IsRow a2) (h : (((V a2 3) < x4 → Wf K (d + 2) mX11_first 22 [some (vR 0), some (vI x1), some (vR a2), some (vI (w32 (x3 + 1))), none] [] V Q) ∧ (¬ ((V a2 3) < x4) → Mf K (d + 1) mX10_lengthOf [vR 156, vI x3, vI x4] V (fun r V2 => ∃ z2, r = some (vI z2) ∧ Mf K (d + 1) mX7_agrees [vR 43, vI x1, vI z2] V2 (fun r V3 => ∃ z3, r = some (vI z3) ∧ ((z3 = 0 → Wf K (d + 2) mX11_first 35 [some (vR 0), some (vI x1), some (vR a2), some (vI x3), some (vI (w32 (x4 + 1)))] [] V3 Q) ∧ (¬ (z3 = 0) → Q (some (vI (w32 ((w32 (32 * x3)) + x4)))) V3))))))) : Wf K (d + 2) mX11_first 35 [some (vR 0), some (vI x1), some (vR a2), some (vI x3), some (vI x4)] [] V Q := by
  refine wp_iload dX11_first_35 rfl ?_
  refine wp_aload_n dX11_first_37 rfl rfl ?_
  refine wp_getI dX11_first_38 fX11_157 rfl h2.1 (by decide) ?_
  refine wp_icmp_gt (tgt := 79) dX11_first_41 rfl (fun c1 => ?_) (fun c1 => ?_)
  ·
    refine wp_iinc dX11_first_79 rfl rfl ?_
    refine wp_goto (tgt := 22) dX11_first_82 rfl ?_
    exact wp_loc (L2 := [some (vR 0), some (vI x1), some (vR a2), some (vI (w32 (x3 + 1))), none]) ⟨rfl, ⟨rfl, ⟨rfl, ⟨rfl, trivial⟩⟩⟩⟩ (h.1 c1)
  ·
    refine wp_aload_n dX11_first_44 rfl rfl ?_
    refine wp_getR (b := 43) dX11_first_45 fX11_26 rfl sh0 (by decide) rfl ?_
    refine wp_iload_n dX11_first_48 rfl rfl ?_
    refine wp_aload_n dX11_first_49 rfl rfl ?_
    refine wp_getR (b := 156) dX11_first_50 fX11_76 rfl sh0 (by decide) rfl ?_
    refine wp_iload_n dX11_first_53 rfl rfl ?_
    refine wp_iload dX11_first_54 rfl ?_
    refine wp_callV (S := [vI x1, vR 43]) (as := [vI x3, vI x4]) dX11_first_56 lX11_312 ((h.2 c1)) (by omega) sh156 rfl rfl (Nat.le_of_ble_eq_true rfl) ⟨Nat.le_refl _, Nat.le_refl _⟩ ?_
    rintro _ _ V2 ⟨rfl, z2, rfl, q2⟩
    show Wp _ _ _ _ _ 59 _ [vI z2, vI x1, vR 43] _ _ _ _ _
    refine wp_callV (S := []) (as := [vI x1, vI z2]) dX11_first_59 lX11_360 (q2) (by omega) sh43 rfl rfl (Nat.le_of_ble_eq_true rfl) ⟨Nat.le_refl _, Nat.le_refl _⟩ ?_
    rintro _ _ V3 ⟨rfl, z3, rfl, q3⟩
    show Wp _ _ _ _ _ 62 _ [vI z3] _ _ _ _ _
    refine wp_if_eq (tgt := 73) dX11_first_62 rfl (fun c4 => ?_) (fun c4 => ?_)
    ·
      refine wp_iinc dX11_first_73 rfl rfl ?_
      refine wp_goto (tgt := 35) dX11_first_76 rfl ?_
      exact (q3.1 c4)
    ·
      refine wp_bipush dX11_first_65 (by decide) ?_
      refine wp_iload_n dX11_first_67 rfl rfl ?_
      refine wp_imul dX11_first_68 ?_
      refine wp_iload dX11_first_69 rfl ?_
      refine wp_iadd dX11_first_71 ?_
      exact wp_ireturn dX11_first_72 rfl ⟨rfl, rfl⟩ ⟨rfl, (q3.2 c4)⟩
set_option maxHeartbeats 4000000 in
set_option maxRecDepth 10000 in
theorem sX11_ask {K : KK} {d : Nat} {V : Mem} {Q : Option AV → Mem → Prop} (x1 : Int) (h : ((x1 < 0 → Q (some (vI (-1))) V) ∧ (¬ (x1 < 0) → (((V 43 5) ≤ x1 → Q (some (vI (-1))) V) ∧ (¬ ((V 43 5) ≤ x1) → (((0 : Int) ≤ x1 ∧ x1 < (4 : Nat)) ∧ Mf K d mX11_tallyFits [vR 0, vR (49 + 2 * Int.toNat x1), vI x1] V (fun r V4 => ∃ z4, r = some (vI z4) ∧ Wf K (d + 1) mX11_ask 39 [some (vR 0), none, none, some (vI z4), some (vI z4), some (vI (-1)), some (vI (V4 248 0)), some (vI 1), none] [] V4 Q))))))) : Mf K (d + 1) mX11_ask [vR 0, vI x1] V Q := by
  refine Mt.of2 (L := [some (vR 0), some (vI x1), none, none, none, none, none, none, none]) pnX11 rfl rfl ?_
  refine wp_aload_n dX11_ask_0 rfl rfl ?_
  refine wp_getR (b := 43) dX11_ask_1 fX11_26 rfl sh0 (by decide) rfl ?_
  refine wp_iload_n dX11_ask_4 rfl rfl ?_
  refine wp_inlV (d' := d) (S := []) (as := [vI x1]) dX11_ask_5 lX11_150 (by omega) sh43 rfl rfl (Nat.le_of_ble_eq_true rfl) ⟨Nat.le_refl _, Nat.le_refl _⟩ (Mt.of2 (L := [some (vR 43), some (vI x1)]) pnX7 rfl rfl ?_)
  refine wp_iload_n dX7_rowAt_0 rfl rfl ?_
  refine wp_if_lt (tgt := 21) dX7_rowAt_1 rfl (fun c1 => ?_) (fun c1 => ?_)
  ·
    refine wp_null dX7_rowAt_21 ?_
    refine wp_areturn dX7_rowAt_22 rfl ⟨rfl, rfl⟩ ?_
    show Wp _ _ _ _ _ 8 _ [vN] _ _ _ _ _
    refine wp_astore_nN dX11_ask_8 rfl (by decide) rfl ?_
    refine wp_aload_nN dX11_ask_9 rfl rfl ?_
    refine wp_ifnonnullN dX11_ask_10 ?_
    refine wp_iconst dX11_ask_13 (by decide) ?_
    exact wp_ireturn dX11_ask_14 rfl ⟨rfl, rfl⟩ ⟨rfl, (h.1 c1)⟩
  ·
    refine wp_iload_n dX7_rowAt_4 rfl rfl ?_
    refine wp_aload_n dX7_rowAt_5 rfl rfl ?_
    refine wp_getI dX7_rowAt_6 fX7_36 rfl sh43 (by decide) ?_
    refine wp_icmp_ge (tgt := 21) dX7_rowAt_9 rfl (fun c2 => ?_) (fun c2 => ?_)
    ·
      refine wp_null dX7_rowAt_21 ?_
      refine wp_areturn dX7_rowAt_22 rfl ⟨rfl, rfl⟩ ?_
      show Wp _ _ _ _ _ 8 _ [vN] _ _ _ _ _
      refine wp_astore_nN dX11_ask_8 rfl (by decide) rfl ?_
      refine wp_aload_nN dX11_ask_9 rfl rfl ?_
      refine wp_ifnonnullN dX11_ask_10 ?_
      refine wp_iconst dX11_ask_13 (by decide) ?_
      exact wp_ireturn dX11_ask_14 rfl ⟨rfl, rfl⟩ ⟨rfl, ((h.2 c1).1 c2)⟩
    ·
      refine wp_aload_n dX7_rowAt_12 rfl rfl ?_
      refine wp_getR (b := 44) dX7_rowAt_13 fX7_11 rfl sh43 (by decide) rfl ?_
      refine wp_iload_n dX7_rowAt_16 rfl rfl ?_
      have g3 : (0 : Int) ≤ x1 ∧ x1 < (4 : Nat) := ((h.2 c1).2 c2).1
      refine wp_aald (b := (49 + 2 * Int.toNat x1)) dX7_rowAt_17 sh44 (by decide) g3 (ap_get (b := 49) (s := 2) (n := 4) g3) ?_
      refine wp_goto (tgt := 22) dX7_rowAt_18 rfl ?_
      refine wp_areturn dX7_rowAt_22 rfl ⟨rfl, rfl⟩ ?_
      show Wp _ _ _ _ _ 8 _ [vR (49 + 2 * Int.toNat x1)] _ _ _ _ _
      refine wp_astore_n dX11_ask_8 rfl (by decide) rfl ?_
      refine wp_aload_n dX11_ask_9 rfl rfl ?_
      refine wp_ifnonnull (tgt := 15) dX11_ask_10 rfl ?_
      refine wp_aload_n dX11_ask_15 rfl rfl ?_
      refine wp_aload_n dX11_ask_16 rfl rfl ?_
      refine wp_iload_n dX11_ask_17 rfl rfl ?_
      refine wp_callV (S := []) (as := [vR (49 + 2 * Int.toNat x1), vI x1]) dX11_ask_18 lX11_356 (((h.2 c1).2 c2).2) (by omega) sh0 rfl rfl (Nat.le_of_ble_eq_true rfl) ⟨Nat.le_refl _, Nat.le_refl _⟩ ?_
      rintro _ _ V4 ⟨rfl, z4, rfl, q4⟩
      show Wp _ _ _ _ _ 21 _ [vI z4] _ _ _ _ _
      refine wp_istore_n dX11_ask_21 rfl (by decide) rfl ?_
      refine wp_iload_n dX11_ask_22 rfl rfl ?_
      refine wp_istore dX11_ask_23 (by decide) rfl ?_
      refine wp_iconst dX11_ask_25 (by decide) ?_
      refine wp_istore dX11_ask_26 (by decide) rfl ?_
      refine wp_aload_n dX11_ask_28 rfl rfl ?_
      refine wp_getR (b := 248) dX11_ask_29 fX11_101 rfl sh0 (by decide) rfl ?_
      refine wp_iconst dX11_ask_32 (by decide) ?_
      refine wp_iald dX11_ask_33 sh248 (by decide) ?_
      refine wp_istore dX11_ask_34 (by decide) rfl ?_
      refine wp_iconst dX11_ask_36 (by decide) ?_
      refine wp_istore dX11_ask_37 (by decide) rfl ?_
      exact wp_loc (L2 := [some (vR 0), none, none, some (vI z4), some (vI z4), some (vI (-1)), some (vI (V4 248 0)), some (vI 1), none]) ⟨rfl, ⟨rfl, ⟨rfl, ⟨rfl, ⟨rfl, ⟨rfl, trivial⟩⟩⟩⟩⟩⟩ q4
set_option maxHeartbeats 4000000 in
set_option maxRecDepth 10000 in
theorem sX11_ask_39 {K : KK} {d : Nat} {V : Mem} {Q : Option AV → Mem → Prop} (x3 : Int) (x4 : Int) (x5 : Int) (x6 : Int) (x7 : Int) (h : ((20 < x7 → Q (some (vI x5)) V) ∧ (¬ (20 < x7) → ((x4 ≤ (max x6 (w32 (x3 - x6))) → (((0 : Int) ≤ x7 ∧ x7 < (21 : Nat)) ∧ Wf K (d + 1) mX11_ask 39 [some (vR 0), none, none, some (vI x3), some (vI x4), some (vI x5), some (vI (w32 (x6 + (V 248 (Int.toNat x7))))), some (vI (w32 (x7 + 1))), none] [] V Q)) ∧ (¬ (x4 ≤ (max x6 (w32 (x3 - x6)))) → (((0 : Int) ≤ x7 ∧ x7 < (21 : Nat)) ∧ Wf K (d + 1) mX11_ask 39 [some (vR 0), none, none, some (vI x3), some (vI (max x6 (w32 (x3 - x6)))), some (vI x7), some (vI (w32 (x6 + (V 248 (Int.toNat x7))))), some (vI (w32 (x7 + 1))), none] [] V Q)))))) : Wf K (d + 1) mX11_ask 39 [some (vR 0), none, none, some (vI x3), some (vI x4), some (vI x5), some (vI x6), some (vI x7), none] [] V Q := by
  refine wp_iload dX11_ask_39 rfl ?_
  refine wp_bipush dX11_ask_41 (by decide) ?_
  refine wp_icmp_gt (tgt := 90) dX11_ask_43 rfl (fun c1 => ?_) (fun c1 => ?_)
  ·
    refine wp_iload dX11_ask_90 rfl ?_
    exact wp_ireturn dX11_ask_92 rfl ⟨rfl, rfl⟩ ⟨rfl, (h.1 c1)⟩
  ·
    refine wp_iload dX11_ask_46 rfl ?_
    refine wp_iload_n dX11_ask_48 rfl rfl ?_
    refine wp_iload dX11_ask_49 rfl ?_
    refine wp_isub dX11_ask_51 ?_
    refine wp_mmax dX11_ask_52 lX11_363 (by omega) (Nat.le_of_ble_eq_true rfl) ⟨Nat.le_refl _, Nat.le_refl _⟩ ?_
    refine wp_istore dX11_ask_55 (by decide) rfl ?_
    refine wp_iload dX11_ask_57 rfl ?_
    refine wp_iload dX11_ask_59 rfl ?_
    refine wp_icmp_ge (tgt := 72) dX11_ask_61 rfl (fun c2 => ?_) (fun c2 => ?_)
    ·
      refine wp_iload dX11_ask_72 rfl ?_
      refine wp_aload_n dX11_ask_74 rfl rfl ?_
      refine wp_getR (b := 248) dX11_ask_75 fX11_101 rfl sh0 (by decide) rfl ?_
      refine wp_iload dX11_ask_78 rfl ?_
      refine wp_iald dX11_ask_80 sh248 ((h.2 c1).1 c2).1 ?_
      refine wp_iadd dX11_ask_81 ?_
      refine wp_istore dX11_ask_82 (by decide) rfl ?_
      refine wp_iinc dX11_ask_84 rfl rfl ?_
      refine wp_goto (tgt := 39) dX11_ask_87 rfl ?_
      exact wp_loc (L2 := [some (vR 0), none, none, some (vI x3), some (vI x4), some (vI x5), some (vI (w32 (x6 + (V 248 (Int.toNat x7))))), some (vI (w32 (x7 + 1))), none]) ⟨rfl, ⟨rfl, ⟨rfl, ⟨rfl, ⟨rfl, ⟨rfl, trivial⟩⟩⟩⟩⟩⟩ ((h.2 c1).1 c2).2
    ·
      refine wp_iload dX11_ask_64 rfl ?_
      refine wp_istore dX11_ask_66 (by decide) rfl ?_
      refine wp_iload dX11_ask_68 rfl ?_
      refine wp_istore dX11_ask_70 (by decide) rfl ?_
      refine wp_iload dX11_ask_72 rfl ?_
      refine wp_aload_n dX11_ask_74 rfl rfl ?_
      refine wp_getR (b := 248) dX11_ask_75 fX11_101 rfl sh0 (by decide) rfl ?_
      refine wp_iload dX11_ask_78 rfl ?_
      refine wp_iald dX11_ask_80 sh248 ((h.2 c1).2 c2).1 ?_
      refine wp_iadd dX11_ask_81 ?_
      refine wp_istore dX11_ask_82 (by decide) rfl ?_
      refine wp_iinc dX11_ask_84 rfl rfl ?_
      refine wp_goto (tgt := 39) dX11_ask_87 rfl ?_
      exact wp_loc (L2 := [some (vR 0), none, none, some (vI x3), some (vI (max x6 (w32 (x3 - x6)))), some (vI x7), some (vI (w32 (x6 + (V 248 (Int.toNat x7))))), some (vI (w32 (x7 + 1))), none]) ⟨rfl, ⟨rfl, ⟨rfl, ⟨rfl, ⟨rfl, ⟨rfl, trivial⟩⟩⟩⟩⟩⟩ ((h.2 c1).2 c2).2
set_option maxHeartbeats 4000000 in
set_option maxRecDepth 10000 in
theorem sX11_tallyFits {K : KK} {d : Nat} {V : Mem} {Q : Option AV → Mem → Prop} (a1 : Nat) (x2 : Int) (h1 : IsRow a1) (h : Mf K d mX1_load [vR 146, vR a1, vR 135] V (fun r V1 => r = none ∧ Mf K d mX10_fillChains [vR 156, vR 146] V1 (fun r V2 => r = none ∧ Wf K (d + 2) mX11_tallyFits 7 [some (vR 0), some (vR a1), some (vI x2), some (vI 0), none, none, none] [] V2 Q))) : Mf K (d + 2) mX11_tallyFits [vR 0, vR a1, vI x2] V Q := by
  refine Mt.of2 (L := [some (vR 0), some (vR a1), some (vI x2), none, none, none, none]) pnX11 rfl rfl ?_
  refine wp_aload_n dX11_tallyFits_0 rfl rfl ?_
  refine wp_aload_n dX11_tallyFits_1 rfl rfl ?_
  refine wp_inlV (d' := (d + 1)) (S := []) (as := [vR a1]) dX11_tallyFits_2 lX11_285 (by omega) sh0 rfl rfl (Nat.le_of_ble_eq_true rfl) ⟨Nat.le_refl _, Nat.le_refl _⟩ (Mt.of2 (L := [some (vR 0), some (vR a1)]) pnX11 rfl rfl ?_)
  refine wp_aload_n dX11_fillWindows_0 rfl rfl ?_
  refine wp_getR (b := 146) dX11_fillWindows_1 fX11_66 rfl sh0 (by decide) rfl ?_
  refine wp_aload_n dX11_fillWindows_4 rfl rfl ?_
  refine wp_aload_n dX11_fillWindows_5 rfl rfl ?_
  refine wp_getR (b := 135) dX11_fillWindows_6 fX11_47 rfl sh0 (by decide) rfl ?_
  refine wp_callV (S := []) (as := [vR a1, vR 135]) dX11_fillWindows_9 lX11_267 (h) (by omega) sh146 rfl rfl (Nat.le_of_ble_eq_true rfl) ⟨Nat.le_refl _, Nat.le_refl _⟩ ?_
  rintro _ _ V1 ⟨rfl, rfl, q1⟩
  show Wp _ _ _ _ _ 12 _ [] _ _ _ _ _
  refine wp_aload_n dX11_fillWindows_12 rfl rfl ?_
  refine wp_getR (b := 156) dX11_fillWindows_13 fX11_76 rfl sh0 (by decide) rfl ?_
  refine wp_aload_n dX11_fillWindows_16 rfl rfl ?_
  refine wp_getR (b := 146) dX11_fillWindows_17 fX11_66 rfl sh0 (by decide) rfl ?_
  refine wp_callV (S := []) (as := [vR 146]) dX11_fillWindows_20 lX11_304 (q1) (by omega) sh156 rfl rfl (Nat.le_of_ble_eq_true rfl) ⟨Nat.le_refl _, Nat.le_refl _⟩ ?_
  rintro _ _ V2 ⟨rfl, rfl, q2⟩
  show Wp _ _ _ _ _ 23 _ [] _ _ _ _ _
  refine wp_return dX11_fillWindows_23 rfl ⟨rfl, rfl⟩ ?_
  show Wp _ _ _ _ _ 5 _ [] _ _ _ _ _
  refine wp_iconst dX11_tallyFits_5 (by decide) ?_
  refine wp_istore_n dX11_tallyFits_6 rfl (by decide) rfl ?_
  exact q2
set_option maxHeartbeats 4000000 in
set_option maxRecDepth 10000 in
theorem sX11_tallyFits_7 {K : KK} {d : Nat} {V : Mem} {Q : Option AV → Mem → Prop} (a1 : Nat) (x2 : Int) (x3 : Int) (h1 : IsRow a1) (h : ((20 < x3 → Wf K (d + 2) mX11_tallyFits 31 [some (vR 0), some (vR a1), some (vI x2), some (vI 0), some (vI 0), none, none] [] V Q) ∧ (¬ (20 < x3) → (((0 : Int) ≤ x3 ∧ x3 < (21 : Nat)) ∧ Wf K (d + 2) mX11_tallyFits 7 [some (vR 0), some (vR a1), some (vI x2), some (vI (w32 (x3 + 1))), none, none, none] [] (upm V 248 (Int.toNat x3) 0) Q)))) : Wf K (d + 2) mX11_tallyFits 7 [some (vR 0), some (vR a1), some (vI x2), some (vI x3), none, none, none] [] V Q := by
  refine wp_iload_n dX11_tallyFits_7 rfl rfl ?_
  refine wp_bipush dX11_tallyFits_8 (by decide) ?_
  refine wp_icmp_gt (tgt := 26) dX11_tallyFits_10 rfl (fun c1 => ?_) (fun c1 => ?_)
  ·
    refine wp_iconst dX11_tallyFits_26 (by decide) ?_
    refine wp_istore_n dX11_tallyFits_27 rfl (by decide) rfl ?_
    refine wp_iconst dX11_tallyFits_28 (by decide) ?_
    refine wp_istore dX11_tallyFits_29 (by decide) rfl ?_
    exact (h.1 c1)
  ·
    refine wp_aload_n dX11_tallyFits_13 rfl rfl ?_
    refine wp_getR (b := 248) dX11_tallyFits_14 fX11_101 rfl sh0 (by decide) rfl ?_
    refine wp_iload_n dX11_tallyFits_17 rfl rfl ?_
    refine wp_iconst dX11_tallyFits_18 (by decide) ?_
    refine wp_iast dX11_tallyFits_19 sh248 (h.2 c1).1 ?_
    refine wp_iinc dX11_tallyFits_20 rfl rfl ?_
    refine wp_goto (tgt := 7) dX11_tallyFits_23 rfl ?_
    exact (h.2 c1).2
set_option maxHeartbeats 4000000 in
set_option maxRecDepth 10000 in
theorem sX11_tallyFits_31 {K : KK} {d : Nat} {V : Mem} {Q : Option AV → Mem → Prop} (a1 : Nat) (x2 : Int) (x3 : Int) (x4 : Int) (h1 : IsRow a1) (h : (((V a1 3) ≤ x4 → Q (some (vI x3)) V) ∧ (¬ ((V a1 3) ≤ x4) → Wf K (d + 2) mX11_tallyFits 46 [some (vR 0), some (vR a1), some (vI x2), some (vI x3), some (vI x4), some (vI (w32 (x4 + 1))), none] [] V Q))) : Wf K (d + 2) mX11_tallyFits 31 [some (vR 0), some (vR a1), some (vI x2), some (vI x3), some (vI x4), none, none] [] V Q := by
  refine wp_iload dX11_tallyFits_31 rfl ?_
  refine wp_aload_n dX11_tallyFits_33 rfl rfl ?_
  refine wp_getI dX11_tallyFits_34 fX11_157 rfl h1.1 (by decide) ?_
  refine wp_icmp_ge (tgt := 119) dX11_tallyFits_37 rfl (fun c1 => ?_) (fun c1 => ?_)
  ·
    refine wp_iload_n dX11_tallyFits_119 rfl rfl ?_
    exact wp_ireturn dX11_tallyFits_120 rfl ⟨rfl, rfl⟩ ⟨rfl, (h.1 c1)⟩
  ·
    refine wp_iload dX11_tallyFits_40 rfl ?_
    refine wp_iconst dX11_tallyFits_42 (by decide) ?_
    refine wp_iadd dX11_tallyFits_43 ?_
    refine wp_istore dX11_tallyFits_44 (by decide) rfl ?_
    exact (h.2 c1)
set_option maxHeartbeats 4000000 in
set_option maxRecDepth 10000 in
theorem sX11_tallyFits_46 {K : KK} {d : Nat} {V : Mem} {Q : Option AV → Mem → Prop} (a1 : Nat) (x2 : Int) (x3 : Int) (x4 : Int) (x5 : Int) (h1 : IsRow a1) (h : (((V a1 3) < x5 → Wf K (d + 2) mX11_tallyFits 31 [some (vR 0), some (vR a1), some (vI x2), some (vI x3), some (vI (w32 (x4 + 1))), none, none] [] V Q) ∧ (¬ ((V a1 3) < x5) → Mf K (d + 1) mX10_lengthOf [vR 156, vI x4, vI x5] V (fun r V2 => ∃ z2, r = some (vI z2) ∧ ((z2 < 0 → Wf K (d + 2) mX11_tallyFits 46 [some (vR 0), some (vR a1), some (vI x2), some (vI x3), some (vI x4), some (vI (w32 (x5 + 1))), none] [] V2 Q) ∧ (¬ (z2 < 0) → ((20 < z2 → Wf K (d + 2) mX11_tallyFits 46 [some (vR 0), some (vR a1), some (vI x2), some (vI x3), some (vI x4), some (vI (w32 (x5 + 1))), none] [] V2 Q) ∧ (¬ (20 < z2) → Mf K (d + 1) mX7_agrees [vR 43, vI x2, vI z2] V2 (fun r V5 => ∃ z5, r = some (vI z5) ∧ ((z5 = 0 → Wf K (d + 2) mX11_tallyFits 46 [some (vR 0), some (vR a1), some (vI x2), some (vI x3), some (vI x4), some (vI (w32 (x5 + 1))), none] [] V5 Q) ∧ (¬ (z5 = 0) → (((0 : Int) ≤ z2 ∧ z2 < (21 : Nat)) ∧ (((0 : Int) ≤ z2 ∧ z2 < (21 : Nat)) ∧ Wf K (d + 2) mX11_tallyFits 46 [some (vR 0), some (vR a1), some (vI x2), some (vI (w32 (x3 + 1))), some (vI x4), some (vI (w32 (x5 + 1))), none] [] (upm V5 248 (Int.toNat z2) (w32 ((V5 248 (Int.toNat z2)) + 1))) Q))))))))))))) : Wf K (d + 2) mX11_tallyFits 46 [some (vR 0), some (vR a1), some (vI x2), some (vI x3), some (vI x4), some (vI x5), none] [] V Q := by
  refine wp_iload dX11_tallyFits_46 rfl ?_
  refine wp_aload_n dX11_tallyFits_48 rfl rfl ?_
  refine wp_getI dX11_tallyFits_49 fX11_157 rfl h1.1 (by decide) ?_
  refine wp_icmp_gt (tgt := 113) dX11_tallyFits_52 rfl (fun c1 => ?_) (fun c1 => ?_)
  ·
    refine wp_iinc dX11_tallyFits_113 rfl rfl ?_
    refine wp_goto (tgt := 31) dX11_tallyFits_116 rfl ?_
    exact wp_loc (L2 := [some (vR 0), some (vR a1), some (vI x2), some (vI x3), some (vI (w32 (x4 + 1))), none, none]) ⟨rfl, ⟨rfl, ⟨rfl, ⟨rfl, ⟨rfl, trivial⟩⟩⟩⟩⟩ (h.1 c1)
  ·
    refine wp_aload_n dX11_tallyFits_55 rfl rfl ?_
    refine wp_getR (b := 156) dX11_tallyFits_56 fX11_76 rfl sh0 (by decide) rfl ?_
    refine wp_iload dX11_tallyFits_59 rfl ?_
    refine wp_iload dX11_tallyFits_61 rfl ?_
    refine wp_callV (S := []) (as := [vI x4, vI x5]) dX11_tallyFits_63 lX11_312 ((h.2 c1)) (by omega) sh156 rfl rfl (Nat.le_of_ble_eq_true rfl) ⟨Nat.le_refl _, Nat.le_refl _⟩ ?_
    rintro _ _ V2 ⟨rfl, z2, rfl, q2⟩
    show Wp _ _ _ _ _ 66 _ [vI z2] _ _ _ _ _
    refine wp_istore dX11_tallyFits_66 (by decide) rfl ?_
    refine wp_iload dX11_tallyFits_68 rfl ?_
    refine wp_if_lt (tgt := 107) dX11_tallyFits_70 rfl (fun c3 => ?_) (fun c3 => ?_)
    ·
      refine wp_iinc dX11_tallyFits_107 rfl rfl ?_
      refine wp_goto (tgt := 46) dX11_tallyFits_110 rfl ?_
      exact wp_loc (L2 := [some (vR 0), some (vR a1), some (vI x2), some (vI x3), some (vI x4), some (vI (w32 (x5 + 1))), none]) ⟨rfl, ⟨rfl, ⟨rfl, ⟨rfl, ⟨rfl, ⟨rfl, trivial⟩⟩⟩⟩⟩⟩ (q2.1 c3)
    ·
      refine wp_iload dX11_tallyFits_73 rfl ?_
      refine wp_bipush dX11_tallyFits_75 (by decide) ?_
      refine wp_icmp_gt (tgt := 107) dX11_tallyFits_77 rfl (fun c4 => ?_) (fun c4 => ?_)
      ·
        refine wp_iinc dX11_tallyFits_107 rfl rfl ?_
        refine wp_goto (tgt := 46) dX11_tallyFits_110 rfl ?_
        exact wp_loc (L2 := [some (vR 0), some (vR a1), some (vI x2), some (vI x3), some (vI x4), some (vI (w32 (x5 + 1))), none]) ⟨rfl, ⟨rfl, ⟨rfl, ⟨rfl, ⟨rfl, ⟨rfl, trivial⟩⟩⟩⟩⟩⟩ ((q2.2 c3).1 c4)
      ·
        refine wp_aload_n dX11_tallyFits_80 rfl rfl ?_
        refine wp_getR (b := 43) dX11_tallyFits_81 fX11_26 rfl sh0 (by decide) rfl ?_
        refine wp_iload_n dX11_tallyFits_84 rfl rfl ?_
        refine wp_iload dX11_tallyFits_85 rfl ?_
        refine wp_callV (S := []) (as := [vI x2, vI z2]) dX11_tallyFits_87 lX11_360 (((q2.2 c3).2 c4)) (by omega) sh43 rfl rfl (Nat.le_of_ble_eq_true rfl) ⟨Nat.le_refl _, Nat.le_refl _⟩ ?_
        rintro _ _ V5 ⟨rfl, z5, rfl, q5⟩
        show Wp _ _ _ _ _ 90 _ [vI z5] _ _ _ _ _
        refine wp_if_eq (tgt := 107) dX11_tallyFits_90 rfl (fun c6 => ?_) (fun c6 => ?_)
        ·
          refine wp_iinc dX11_tallyFits_107 rfl rfl ?_
          refine wp_goto (tgt := 46) dX11_tallyFits_110 rfl ?_
          exact wp_loc (L2 := [some (vR 0), some (vR a1), some (vI x2), some (vI x3), some (vI x4), some (vI (w32 (x5 + 1))), none]) ⟨rfl, ⟨rfl, ⟨rfl, ⟨rfl, ⟨rfl, ⟨rfl, trivial⟩⟩⟩⟩⟩⟩ (q5.1 c6)
        ·
          refine wp_aload_n dX11_tallyFits_93 rfl rfl ?_
          refine wp_getR (b := 248) dX11_tallyFits_94 fX11_101 rfl sh0 (by decide) rfl ?_
          refine wp_iload dX11_tallyFits_97 rfl ?_
          refine wp_dup2 dX11_tallyFits_99 rfl rfl ?_
          refine wp_iald dX11_tallyFits_100 sh248 (q5.2 c6).1 ?_
          refine wp_iconst dX11_tallyFits_101 (by decide) ?_
          refine wp_iadd dX11_tallyFits_102 ?_
          refine wp_iast dX11_tallyFits_103 sh248 (q5.2 c6).2.1 ?_
          refine wp_iinc dX11_tallyFits_104 rfl rfl ?_
          refine wp_iinc dX11_tallyFits_107 rfl rfl ?_
          refine wp_goto (tgt := 46) dX11_tallyFits_110 rfl ?_
          exact wp_loc (L2 := [some (vR 0), some (vR a1), some (vI x2), some (vI (w32 (x3 + 1))), some (vI x4), some (vI (w32 (x5 + 1))), none]) ⟨rfl, ⟨rfl, ⟨rfl, ⟨rfl, ⟨rfl, ⟨rfl, trivial⟩⟩⟩⟩⟩⟩ (q5.2 c6).2.2
set_option maxHeartbeats 4000000 in
set_option maxRecDepth 10000 in
theorem sX11_drawn {K : KK} {d : Nat} {V : Mem} {Q : Option AV → Mem → Prop} (x1 : Int) (x2 : Int) (x3 : Int) (x4 : Int) (h : ((x1 < 0 → Q (some (vI (-1))) V) ∧ (¬ (x1 < 0) → ((9999 < x1 → Q (some (vI (-1))) V) ∧ (¬ (9999 < x1) → ((x2 < 1 → Q (some (vI (-1))) V) ∧ (¬ (x2 < 1) → ((x2 ≤ 20 → ((x3 < 1 → Q (some (vI (-1))) V) ∧ (¬ (x3 < 1) → ((100 < x3 → Q (some (vI (-1))) V) ∧ (¬ (100 < x3) → ((x4 < 0 → Q (some (vI (-1))) V) ∧ (¬ (x4 < 0) → ((x4 ≤ 2 → Mf K (d + 1) mX11_draw [vR 0, vI x1, vI x2, vI x3] V (fun r V9 => r = none ∧ ((¬ x4 = 2 → Mf K (d + 1) mX1_load [vR 146, vR 246, vR 135] V9 (fun r V11 => r = none ∧ Mf K (d + 1) mX1_measure [vR 146, vI 0, vI x2] V11 (fun r V12 => r = none ∧ ((¬ x4 = 0 → Mf K (d + 1) mX1_countWays [vR 146] V12 (fun r V14 => ∃ z14, r = some (vI z14) ∧ Q (some (vI z14)) V14)) ∧ (x4 = 0 → Q (some (vI (V12 146 5))) V12))))) ∧ (x4 = 2 → Mf K d mX1_load [vR 146, vR 246, vR 135] V9 (fun r V15 => r = none ∧ Mf K d mX10_fillChains [vR 156, vR 146] V15 (fun r V16 => r = none ∧ Mf K (d + 1) mX10_strandsWithin [vR 156, vI 0, vI x2] V16 (fun r V17 => ∃ z17, r = some (vI z17) ∧ Q (some (vI z17)) V17))))))) ∧ (¬ (x4 ≤ 2) → Q (some (vI (-1))) V))))))))) ∧ (¬ (x2 ≤ 20) → Q (some (vI (-1))) V))))))))) : Mf K (d + 2) mX11_drawn [vR 0, vI x1, vI x2, vI x3, vI x4] V Q := by
  refine Mt.of2 (L := [some (vR 0), some (vI x1), some (vI x2), some (vI x3), some (vI x4)]) pnX11 rfl rfl ?_
  refine wp_iload_n dX11_drawn_0 rfl rfl ?_
  refine wp_if_lt (tgt := 22) dX11_drawn_1 rfl (fun c1 => ?_) (fun c1 => ?_)
  ·
    refine wp_iconst dX11_drawn_22 (by decide) ?_
    exact wp_ireturn dX11_drawn_23 rfl ⟨rfl, rfl⟩ ⟨rfl, (h.1 c1)⟩
  ·
    refine wp_iload_n dX11_drawn_4 rfl rfl ?_
    refine wp_sipush dX11_drawn_5 (by decide) ?_
    refine wp_icmp_gt (tgt := 22) dX11_drawn_8 rfl (fun c2 => ?_) (fun c2 => ?_)
    ·
      refine wp_iconst dX11_drawn_22 (by decide) ?_
      exact wp_ireturn dX11_drawn_23 rfl ⟨rfl, rfl⟩ ⟨rfl, ((h.2 c1).1 c2)⟩
    ·
      refine wp_iload_n dX11_drawn_11 rfl rfl ?_
      refine wp_iconst dX11_drawn_12 (by decide) ?_
      refine wp_icmp_lt (tgt := 22) dX11_drawn_13 rfl (fun c3 => ?_) (fun c3 => ?_)
      ·
        refine wp_iconst dX11_drawn_22 (by decide) ?_
        exact wp_ireturn dX11_drawn_23 rfl ⟨rfl, rfl⟩ ⟨rfl, (((h.2 c1).2 c2).1 c3)⟩
      ·
        refine wp_iload_n dX11_drawn_16 rfl rfl ?_
        refine wp_bipush dX11_drawn_17 (by decide) ?_
        refine wp_icmp_le (tgt := 24) dX11_drawn_19 rfl (fun c4 => ?_) (fun c4 => ?_)
        ·
          refine wp_iload_n dX11_drawn_24 rfl rfl ?_
          refine wp_iconst dX11_drawn_25 (by decide) ?_
          refine wp_icmp_lt (tgt := 46) dX11_drawn_26 rfl (fun c5 => ?_) (fun c5 => ?_)
          ·
            refine wp_iconst dX11_drawn_46 (by decide) ?_
            exact wp_ireturn dX11_drawn_47 rfl ⟨rfl, rfl⟩ ⟨rfl, (((((h.2 c1).2 c2).2 c3).1 c4).1 c5)⟩
          ·
            refine wp_iload_n dX11_drawn_29 rfl rfl ?_
            refine wp_bipush dX11_drawn_30 (by decide) ?_
            refine wp_icmp_gt (tgt := 46) dX11_drawn_32 rfl (fun c6 => ?_) (fun c6 => ?_)
            ·
              refine wp_iconst dX11_drawn_46 (by decide) ?_
              exact wp_ireturn dX11_drawn_47 rfl ⟨rfl, rfl⟩ ⟨rfl, ((((((h.2 c1).2 c2).2 c3).1 c4).2 c5).1 c6)⟩
            ·
              refine wp_iload dX11_drawn_35 rfl ?_
              refine wp_if_lt (tgt := 46) dX11_drawn_37 rfl (fun c7 => ?_) (fun c7 => ?_)
              ·
                refine wp_iconst dX11_drawn_46 (by decide) ?_
                exact wp_ireturn dX11_drawn_47 rfl ⟨rfl, rfl⟩ ⟨rfl, (((((((h.2 c1).2 c2).2 c3).1 c4).2 c5).2 c6).1 c7)⟩
              ·
                refine wp_iload dX11_drawn_40 rfl ?_
                refine wp_iconst dX11_drawn_42 (by decide) ?_
                refine wp_icmp_le (tgt := 48) dX11_drawn_43 rfl (fun c8 => ?_) (fun c8 => ?_)
                ·
                  refine wp_aload_n dX11_drawn_48 rfl rfl ?_
                  refine wp_iload_n dX11_drawn_49 rfl rfl ?_
                  refine wp_iload_n dX11_drawn_50 rfl rfl ?_
                  refine wp_iload_n dX11_drawn_51 rfl rfl ?_
                  refine wp_callV (S := []) (as := [vI x1, vI x2, vI x3]) dX11_drawn_52 lX11_368 (((((((((h.2 c1).2 c2).2 c3).1 c4).2 c5).2 c6).2 c7).1 c8)) (by omega) sh0 rfl rfl (Nat.le_of_ble_eq_true rfl) ⟨Nat.le_refl _, Nat.le_refl _⟩ ?_
                  rintro _ _ V9 ⟨rfl, rfl, q9⟩
                  show Wp _ _ _ _ _ 55 _ [] _ _ _ _ _
                  refine wp_iload dX11_drawn_55 rfl ?_
                  refine wp_iconst dX11_drawn_57 (by decide) ?_
                  refine wp_icmp_ne (tgt := 79) dX11_drawn_58 rfl (fun c10 => ?_) (fun c10 => ?_)
                  ·
                    refine wp_aload_n dX11_drawn_79 rfl rfl ?_
                    refine wp_getR (b := 146) dX11_drawn_80 fX11_66 rfl sh0 (by decide) rfl ?_
                    refine wp_aload_n dX11_drawn_83 rfl rfl ?_
                    refine wp_getR (b := 246) dX11_drawn_84 fX11_97 rfl sh0 (by decide) rfl ?_
                    refine wp_aload_n dX11_drawn_87 rfl rfl ?_
                    refine wp_getR (b := 135) dX11_drawn_88 fX11_47 rfl sh0 (by decide) rfl ?_
                    refine wp_callV (S := []) (as := [vR 246, vR 135]) dX11_drawn_91 lX11_267 ((q9.1 c10)) (by omega) sh146 rfl rfl (Nat.le_of_ble_eq_true rfl) ⟨Nat.le_refl _, Nat.le_refl _⟩ ?_
                    rintro _ _ V11 ⟨rfl, rfl, q11⟩
                    show Wp _ _ _ _ _ 94 _ [] _ _ _ _ _
                    refine wp_aload_n dX11_drawn_94 rfl rfl ?_
                    refine wp_getR (b := 146) dX11_drawn_95 fX11_66 rfl sh0 (by decide) rfl ?_
                    refine wp_iconst dX11_drawn_98 (by decide) ?_
                    refine wp_iload_n dX11_drawn_99 rfl rfl ?_
                    refine wp_callV (S := []) (as := [vI 0, vI x2]) dX11_drawn_100 lX11_282 (q11) (by omega) sh146 rfl rfl (Nat.le_of_ble_eq_true rfl) ⟨Nat.le_refl _, Nat.le_refl _⟩ ?_
                    rintro _ _ V12 ⟨rfl, rfl, q12⟩
                    show Wp _ _ _ _ _ 103 _ [] _ _ _ _ _
                    refine wp_iload dX11_drawn_103 rfl ?_
                    refine wp_if_ne (tgt := 118) dX11_drawn_105 rfl (fun c13 => ?_) (fun c13 => ?_)
                    ·
                      refine wp_aload_n dX11_drawn_118 rfl rfl ?_
                      refine wp_getR (b := 146) dX11_drawn_119 fX11_66 rfl sh0 (by decide) rfl ?_
                      refine wp_callV (S := []) (as := []) dX11_drawn_122 lX11_254 ((q12.1 c13)) (by omega) sh146 rfl rfl (Nat.le_of_ble_eq_true rfl) ⟨Nat.le_refl _, Nat.le_refl _⟩ ?_
                      rintro _ _ V14 ⟨rfl, z14, rfl, q14⟩
                      show Wp _ _ _ _ _ 125 _ [vI z14] _ _ _ _ _
                      exact wp_ireturn dX11_drawn_125 rfl ⟨rfl, rfl⟩ ⟨rfl, q14⟩
                    ·
                      refine wp_aload_n dX11_drawn_108 rfl rfl ?_
                      refine wp_getR (b := 146) dX11_drawn_109 fX11_66 rfl sh0 (by decide) rfl ?_
                      refine wp_getI dX11_drawn_112 fX11_248 rfl sh146 (by decide) ?_
                      refine wp_goto (tgt := 125) dX11_drawn_115 rfl ?_
                      exact wp_ireturn dX11_drawn_125 rfl ⟨rfl, rfl⟩ ⟨rfl, (q12.2 c13)⟩
                  ·
                    refine wp_aload_n dX11_drawn_61 rfl rfl ?_
                    refine wp_aload_n dX11_drawn_62 rfl rfl ?_
                    refine wp_getR (b := 246) dX11_drawn_63 fX11_97 rfl sh0 (by decide) rfl ?_
                    refine wp_inlV (d' := (d + 1)) (S := []) (as := [vR 246]) dX11_drawn_66 lX11_285 (by omega) sh0 rfl rfl (Nat.le_of_ble_eq_true rfl) ⟨Nat.le_refl _, Nat.le_refl _⟩ (Mt.of2 (L := [some (vR 0), some (vR 246)]) pnX11 rfl rfl ?_)
                    refine wp_aload_n dX11_fillWindows_0 rfl rfl ?_
                    refine wp_getR (b := 146) dX11_fillWindows_1 fX11_66 rfl sh0 (by decide) rfl ?_
                    refine wp_aload_n dX11_fillWindows_4 rfl rfl ?_
                    refine wp_aload_n dX11_fillWindows_5 rfl rfl ?_
                    refine wp_getR (b := 135) dX11_fillWindows_6 fX11_47 rfl sh0 (by decide) rfl ?_
                    refine wp_callV (S := []) (as := [vR 246, vR 135]) dX11_fillWindows_9 lX11_267 ((q9.2 c10)) (by omega) sh146 rfl rfl (Nat.le_of_ble_eq_true rfl) ⟨Nat.le_refl _, Nat.le_refl _⟩ ?_
                    rintro _ _ V15 ⟨rfl, rfl, q15⟩
                    show Wp _ _ _ _ _ 12 _ [] _ _ _ _ _
                    refine wp_aload_n dX11_fillWindows_12 rfl rfl ?_
                    refine wp_getR (b := 156) dX11_fillWindows_13 fX11_76 rfl sh0 (by decide) rfl ?_
                    refine wp_aload_n dX11_fillWindows_16 rfl rfl ?_
                    refine wp_getR (b := 146) dX11_fillWindows_17 fX11_66 rfl sh0 (by decide) rfl ?_
                    refine wp_callV (S := []) (as := [vR 146]) dX11_fillWindows_20 lX11_304 (q15) (by omega) sh156 rfl rfl (Nat.le_of_ble_eq_true rfl) ⟨Nat.le_refl _, Nat.le_refl _⟩ ?_
                    rintro _ _ V16 ⟨rfl, rfl, q16⟩
                    show Wp _ _ _ _ _ 23 _ [] _ _ _ _ _
                    refine wp_return dX11_fillWindows_23 rfl ⟨rfl, rfl⟩ ?_
                    show Wp _ _ _ _ _ 69 _ [] _ _ _ _ _
                    refine wp_aload_n dX11_drawn_69 rfl rfl ?_
                    refine wp_getR (b := 156) dX11_drawn_70 fX11_76 rfl sh0 (by decide) rfl ?_
                    refine wp_iconst dX11_drawn_73 (by decide) ?_
                    refine wp_iload_n dX11_drawn_74 rfl rfl ?_
                    refine wp_callV (S := []) (as := [vI 0, vI x2]) dX11_drawn_75 lX11_292 (q16) (by omega) sh156 rfl rfl (Nat.le_of_ble_eq_true rfl) ⟨Nat.le_refl _, Nat.le_refl _⟩ ?_
                    rintro _ _ V17 ⟨rfl, z17, rfl, q17⟩
                    show Wp _ _ _ _ _ 78 _ [vI z17] _ _ _ _ _
                    exact wp_ireturn dX11_drawn_78 rfl ⟨rfl, rfl⟩ ⟨rfl, q17⟩
                ·
                  refine wp_iconst dX11_drawn_46 (by decide) ?_
                  exact wp_ireturn dX11_drawn_47 rfl ⟨rfl, rfl⟩ ⟨rfl, ((((((((h.2 c1).2 c2).2 c3).1 c4).2 c5).2 c6).2 c7).2 c8)⟩
        ·
          refine wp_iconst dX11_drawn_22 (by decide) ?_
          exact wp_ireturn dX11_drawn_23 rfl ⟨rfl, rfl⟩ ⟨rfl, ((((h.2 c1).2 c2).2 c3).2 c4)⟩
set_option maxHeartbeats 4000000 in
set_option maxRecDepth 10000 in
theorem sX11_draw {K : KK} {d : Nat} {V : Mem} {Q : Option AV → Mem → Prop} (x1 : Int) (x2 : Int) (x3 : Int) (h : Wf K (d + 1) mX11_draw 23 [some (vR 0), none, some (vI x2), some (vI x3), some (vJ x1), none, some (vI 0)] [] (upm (upm V 246 2 0) 246 3 0) Q) : Mf K (d + 1) mX11_draw [vR 0, vI x1, vI x2, vI x3] V Q := by
  refine Mt.of2 (L := [some (vR 0), some (vI x1), some (vI x2), some (vI x3), none, none, none]) pnX11 rfl rfl ?_
  refine wp_aload_n dX11_draw_0 rfl rfl ?_
  refine wp_getR (b := 246) dX11_draw_1 fX11_97 rfl sh0 (by decide) rfl ?_
  refine wp_iconst dX11_draw_4 (by decide) ?_
  refine wp_putI dX11_draw_5 fwX11_154 rfl sh246 (by decide) ?_
  refine wp_aload_n dX11_draw_8 rfl rfl ?_
  refine wp_getR (b := 246) dX11_draw_9 fX11_97 rfl sh0 (by decide) rfl ?_
  refine wp_iconst dX11_draw_12 (by decide) ?_
  refine wp_putI dX11_draw_13 fwX11_157 rfl sh246 (by decide) ?_
  refine wp_iload_n dX11_draw_16 rfl rfl ?_
  refine wp_i2l dX11_draw_17 ?_
  refine wp_lstore dX11_draw_18 (by decide) rfl ?_
  refine wp_iconst dX11_draw_20 (by decide) ?_
  refine wp_istore dX11_draw_21 (by decide) rfl ?_
  exact wp_loc (L2 := [some (vR 0), none, some (vI x2), some (vI x3), some (vJ x1), none, some (vI 0)]) ⟨rfl, ⟨rfl, ⟨rfl, ⟨rfl, ⟨rfl, trivial⟩⟩⟩⟩⟩ h
set_option maxHeartbeats 4000000 in
set_option maxRecDepth 10000 in
theorem sX11_draw_23 {K : KK} {d : Nat} {V : Mem} {Q : Option AV → Mem → Prop} (x2 : Int) (x3 : Int) (j4 : Int) (x6 : Int) (h : ((x2 ≤ x6 → Q none V) ∧ (¬ (x2 ≤ x6) → ((1 ≤ x3 → ((x3 ≠ 0) ∧ Mf K d mX6_add [vR 246, vI (w32 ((w32 (w64 (Int.tdiv (b_land (w64 ((w64 (j4 * 1103515245)) + 12345)) 2147483647) 65536))) - w32 (w32 (Int.tdiv (w32 (w64 (Int.tdiv (b_land (w64 ((w64 (j4 * 1103515245)) + 12345)) 2147483647) 65536))) x3) * x3)))] V (fun r V3 => ∃ z3, r = some (vI z3) ∧ Wf K (d + 1) mX11_draw 23 [some (vR 0), none, some (vI x2), some (vI x3), some (vJ (b_land (w64 ((w64 (j4 * 1103515245)) + 12345)) 2147483647)), none, some (vI (w32 (x6 + 1)))] [] V3 Q))) ∧ (¬ (1 ≤ x3) → Mf K d mX6_add [vR 246, vI 0] V (fun r V4 => ∃ z4, r = some (vI z4) ∧ Wf K (d + 1) mX11_draw 23 [some (vR 0), none, some (vI x2), some (vI x3), some (vJ (b_land (w64 ((w64 (j4 * 1103515245)) + 12345)) 2147483647)), none, some (vI (w32 (x6 + 1)))] [] V4 Q)))))) : Wf K (d + 1) mX11_draw 23 [some (vR 0), none, some (vI x2), some (vI x3), some (vJ j4), none, some (vI x6)] [] V Q := by
  refine wp_iload dX11_draw_23 rfl ?_
  refine wp_iload_n dX11_draw_25 rfl rfl ?_
  refine wp_icmp_ge (tgt := 77) dX11_draw_26 rfl (fun c1 => ?_) (fun c1 => ?_)
  ·
    exact wp_return dX11_draw_77 rfl ⟨rfl, rfl⟩ ⟨rfl, (h.1 c1)⟩
  ·
    refine wp_lload dX11_draw_29 rfl ?_
    refine wp_ldc2 (z := 1103515245) dX11_draw_31 kX11_371 (by decide) ?_
    refine wp_lmul dX11_draw_34 ?_
    refine wp_ldc2 (z := 12345) dX11_draw_35 kX11_373 (by decide) ?_
    refine wp_ladd dX11_draw_38 ?_
    refine wp_ldc2 (z := 2147483647) dX11_draw_39 kX11_375 (by decide) ?_
    refine wp_land dX11_draw_42 ?_
    refine wp_lstore dX11_draw_43 (by decide) rfl ?_
    refine wp_aload_n dX11_draw_45 rfl rfl ?_
    refine wp_getR (b := 246) dX11_draw_46 fX11_97 rfl sh0 (by decide) rfl ?_
    refine wp_iload_n dX11_draw_49 rfl rfl ?_
    refine wp_iconst dX11_draw_50 (by decide) ?_
    refine wp_icmp_ge (tgt := 58) dX11_draw_51 rfl (fun c2 => ?_) (fun c2 => ?_)
    ·
      refine wp_lload dX11_draw_58 rfl ?_
      refine wp_ldc2 (z := 65536) dX11_draw_60 kX11_377 (by decide) ?_
      refine wp_ldiv dX11_draw_63 (by decide) ?_
      refine wp_l2i dX11_draw_64 ?_
      refine wp_iload_n dX11_draw_65 rfl rfl ?_
      refine wp_irem dX11_draw_66 ((h.2 c1).1 c2).1 ?_
      refine wp_callV (S := []) (as := [vI (w32 ((w32 (w64 (Int.tdiv (b_land (w64 ((w64 (j4 * 1103515245)) + 12345)) 2147483647) 65536))) - w32 (w32 (Int.tdiv (w32 (w64 (Int.tdiv (b_land (w64 ((w64 (j4 * 1103515245)) + 12345)) 2147483647) 65536))) x3) * x3)))]) dX11_draw_67 lX11_379 (((h.2 c1).1 c2).2) (by omega) sh246 rfl rfl (Nat.le_of_ble_eq_true rfl) ⟨Nat.le_refl _, Nat.le_refl _⟩ ?_
      rintro _ _ V3 ⟨rfl, z3, rfl, q3⟩
      show Wp _ _ _ _ _ 70 _ [vI z3] _ _ _ _ _
      refine wp_pop dX11_draw_70 rfl ?_
      refine wp_iinc dX11_draw_71 rfl rfl ?_
      refine wp_goto (tgt := 23) dX11_draw_74 rfl ?_
      exact q3
    ·
      refine wp_iconst dX11_draw_54 (by decide) ?_
      refine wp_goto (tgt := 67) dX11_draw_55 rfl ?_
      refine wp_callV (S := []) (as := [vI 0]) dX11_draw_67 lX11_379 (((h.2 c1).2 c2)) (by omega) sh246 rfl rfl (Nat.le_of_ble_eq_true rfl) ⟨Nat.le_refl _, Nat.le_refl _⟩ ?_
      rintro _ _ V4 ⟨rfl, z4, rfl, q4⟩
      show Wp _ _ _ _ _ 70 _ [vI z4] _ _ _ _ _
      refine wp_pop dX11_draw_70 rfl ?_
      refine wp_iinc dX11_draw_71 rfl rfl ?_
      refine wp_goto (tgt := 23) dX11_draw_74 rfl ?_
      exact q4
