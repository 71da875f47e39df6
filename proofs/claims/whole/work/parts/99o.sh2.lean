/-! ===== the world when the reference is being made, and what its constructor calls ===== -/
def SH2 : List SC := C11 0 ++ C12 369
theorem SH_of2 : SH2 ++ [(15, 1, [])] = SH := by decide +kernel
abbrev Wg (K : KK) (d : Nat) (y : MI) (pc : Nat) (L : List (Option AV)) (S : List AV) (V : Mem) (Q : Option AV → Mem → Prop) : Prop := Wp K d y 0 0 pc L S 0 0 SH2 V (fun r sh' V' => sh' = SH2 ∧ Q r V')
abbrev Mg (K : KK) (d : Nat) (y : MI) (as : List AV) (V : Mem) (Q : Option AV → Mem → Prop) : Prop := Mt K d y 0 0 as SH2 V (fun r sh' V' => sh' = SH2 ∧ Q r V')
abbrev Mvg (K : KK) (d : Nat) (y : MI) (as : List AV) (V : Mem) (P : Mem → Prop) : Prop := Mg K d y as V (fun r V' => r = none ∧ P V')
theorem Mvg.use {K : KK} {d : Nat} {y : MI} {as : List AV} {V : Mem} {P T : Mem → Prop} (h : Mvg K d y as V P) (ht : ∀ V', P V' → T V') : Mvg K d y as V T := Mt.imp h (fun _ _ _ ⟨h0, h1, h2⟩ => ⟨h0, h1, ht _ h2⟩)
theorem sg369 : SH2[369]? = some (12, 42, [none, some 370, none, none, some 371, some 372, some 373, none, none, some 374, some 375, some 376, none, some 377, some 378, some 379, some 380, some 381, none, none, some 382, some 383, none, none, some 384, some 385, some 386, some 387, some 388, some 389, some 390, some 391, some 392, some 393, some 394, some 395, some 396, some 397, some 398, some 399, some 400, none]) := by decide +kernel
theorem sg375 : SH2[375]? = some (14, 280, []) := by decide +kernel
theorem sg378 : SH2[378]? = some (14, 190, []) := by decide +kernel
theorem sg381 : SH2[381]? = some (14, 4532, []) := by decide +kernel
theorem sg382 : SH2[382]? = some (16, 4, []) := by decide +kernel
set_option maxHeartbeats 4000000 in
set_option maxRecDepth 10000 in
theorem uX12_standsAsAlways {K : KK} {d : Nat} {V : Mem} {Q : Option AV → Mem → Prop} (x1 : Int) (h : Wg K d mX12_standsAsAlways 2 [some (vR 369), some (vI x1), some (vI 0)] [] V Q) : Mg K d mX12_standsAsAlways [vR 369, vI x1] V Q := by
  refine Mt.of2 (L := [some (vR 369), some (vI x1), none]) pnX12 rfl rfl ?_
  refine wp_iconst dX12_standsAsAlways_0 (by decide) ?_
  refine wp_istore_n dX12_standsAsAlways_1 rfl (by decide) rfl ?_
  exact h

set_option maxHeartbeats 4000000 in
set_option maxRecDepth 10000 in
theorem uX12_standsAsAlways_2 {K : KK} {d : Nat} {V : Mem} {Q : Option AV → Mem → Prop} (x1 : Int) (x2 : Int) (h : ((140 ≤ x2 → (((0 : Int) ≤ (w32 (x1 + 2)) ∧ (w32 (x1 + 2)) < (280 : Nat)) ∧ Q none (upm V 375 (Int.toNat (w32 (x1 + 2))) (-1)))) ∧ (¬ (140 ≤ x2) → (((0 : Int) ≤ (w32 (x1 + x2)) ∧ (w32 (x1 + x2)) < (280 : Nat)) ∧ Wg K d mX12_standsAsAlways 2 [some (vR 369), some (vI x1), some (vI (w32 (x2 + 1)))] [] (upm V 375 (Int.toNat (w32 (x1 + x2))) 0) Q)))) : Wg K d mX12_standsAsAlways 2 [some (vR 369), some (vI x1), some (vI x2)] [] V Q := by
  refine wp_iload_n dX12_standsAsAlways_2 rfl rfl ?_
  refine wp_sipush dX12_standsAsAlways_3 (by decide) ?_
  refine wp_icmp_ge (tgt := 24) dX12_standsAsAlways_6 rfl (fun c1 => ?_) (fun c1 => ?_)
  ·
    refine wp_aload_n dX12_standsAsAlways_24 rfl rfl ?_
    refine wp_getR (b := 375) dX12_standsAsAlways_25 fX12_75 rfl sg369 (by decide) rfl ?_
    refine wp_iload_n dX12_standsAsAlways_28 rfl rfl ?_
    refine wp_iconst dX12_standsAsAlways_29 (by decide) ?_
    refine wp_iadd dX12_standsAsAlways_30 ?_
    refine wp_iconst dX12_standsAsAlways_31 (by decide) ?_
    refine wp_iast dX12_standsAsAlways_32 sg375 (h.1 c1).1 ?_
    exact wp_return dX12_standsAsAlways_33 rfl ⟨rfl, rfl⟩ ⟨rfl, (h.1 c1).2⟩
  ·
    refine wp_aload_n dX12_standsAsAlways_9 rfl rfl ?_
    refine wp_getR (b := 375) dX12_standsAsAlways_10 fX12_75 rfl sg369 (by decide) rfl ?_
    refine wp_iload_n dX12_standsAsAlways_13 rfl rfl ?_
    refine wp_iload_n dX12_standsAsAlways_14 rfl rfl ?_
    refine wp_iadd dX12_standsAsAlways_15 ?_
    refine wp_iconst dX12_standsAsAlways_16 (by decide) ?_
    refine wp_iast dX12_standsAsAlways_17 sg375 (h.2 c1).1 ?_
    refine wp_iinc dX12_standsAsAlways_18 rfl rfl ?_
    refine wp_goto (tgt := 2) dX12_standsAsAlways_21 rfl ?_
    exact (h.2 c1).2

set_option maxHeartbeats 4000000 in
set_option maxRecDepth 10000 in
theorem uX12_starts {K : KK} {d : Nat} {V : Mem} {Q : Option AV → Mem → Prop} (x1 : Int) (h : Wg K (d + 1) mX12_starts 2 [some (vR 369), some (vI x1), some (vI 0), none] [] V Q) : Mg K (d + 1) mX12_starts [vR 369, vI x1] V Q := by
  refine Mt.of2 (L := [some (vR 369), some (vI x1), none, none]) pnX12 rfl rfl ?_
  refine wp_iconst dX12_starts_0 (by decide) ?_
  refine wp_istore_n dX12_starts_1 rfl (by decide) rfl ?_
  exact h

set_option maxHeartbeats 4000000 in
set_option maxRecDepth 10000 in
theorem uX12_starts_2 {K : KK} {d : Nat} {V : Mem} {Q : Option AV → Mem → Prop} (x1 : Int) (x2 : Int) (h : ((181 ≤ x2 → Wg K (d + 1) mX12_starts 26 [some (vR 369), some (vI x1), some (vI 0), none] [] V Q) ∧ (¬ (181 ≤ x2) → (((0 : Int) ≤ (w32 (x1 + x2)) ∧ (w32 (x1 + x2)) < (4532 : Nat)) ∧ Wg K (d + 1) mX12_starts 2 [some (vR 369), some (vI x1), some (vI (w32 (x2 + 1))), none] [] (upm V 381 (Int.toNat (w32 (x1 + x2))) 0) Q)))) : Wg K (d + 1) mX12_starts 2 [some (vR 369), some (vI x1), some (vI x2), none] [] V Q := by
  refine wp_iload_n dX12_starts_2 rfl rfl ?_
  refine wp_sipush dX12_starts_3 (by decide) ?_
  refine wp_icmp_ge (tgt := 24) dX12_starts_6 rfl (fun c1 => ?_) (fun c1 => ?_)
  ·
    refine wp_iconst dX12_starts_24 (by decide) ?_
    refine wp_istore_n dX12_starts_25 rfl (by decide) rfl ?_
    exact (h.1 c1)
  ·
    refine wp_aload_n dX12_starts_9 rfl rfl ?_
    refine wp_getR (b := 381) dX12_starts_10 fX12_93 rfl sg369 (by decide) rfl ?_
    refine wp_iload_n dX12_starts_13 rfl rfl ?_
    refine wp_iload_n dX12_starts_14 rfl rfl ?_
    refine wp_iadd dX12_starts_15 ?_
    refine wp_iconst dX12_starts_16 (by decide) ?_
    refine wp_iast dX12_starts_17 sg381 (h.2 c1).1 ?_
    refine wp_iinc dX12_starts_18 rfl rfl ?_
    refine wp_goto (tgt := 2) dX12_starts_21 rfl ?_
    exact (h.2 c1).2

set_option maxHeartbeats 4000000 in
set_option maxRecDepth 10000 in
theorem uX12_starts_26 {K : KK} {d : Nat} {V : Mem} {Q : Option AV → Mem → Prop} (x1 : Int) (x2 : Int) (h : (((V 375 0) ≤ x2 → (((0 : Int) ≤ (w32 (x1 + 84)) ∧ (w32 (x1 + 84)) < (4532 : Nat)) ∧ Wg K (d + 1) mX12_starts 128 [some (vR 369), some (vI x1), some (vI 0), none] [] (upm V 381 (Int.toNat (w32 (x1 + 84))) (V 375 1)) Q)) ∧ (¬ ((V 375 0) ≤ x2) → (((0 : Int) ≤ (w32 ((w32 (3 + (w32 (22 * x2)))) + 1)) ∧ (w32 ((w32 (3 + (w32 (22 * x2)))) + 1)) < (280 : Nat)) ∧ (((0 : Int) ≤ (w32 (x1 + x2)) ∧ (w32 (x1 + x2)) < (4532 : Nat)) ∧ Wg K (d + 1) mX12_starts 57 [some (vR 369), some (vI x1), some (vI x2), some (vI 0)] [] (upm V 381 (Int.toNat (w32 (x1 + x2))) (V 375 (Int.toNat (w32 ((w32 (3 + (w32 (22 * x2)))) + 1))))) Q))))) : Wg K (d + 1) mX12_starts 26 [some (vR 369), some (vI x1), some (vI x2), none] [] V Q := by
  refine wp_iload_n dX12_starts_26 rfl rfl ?_
  refine wp_aload_n dX12_starts_27 rfl rfl ?_
  refine wp_inlV (d' := d) (S := [vI x2]) (as := []) dX12_starts_28 lX12_272 (by omega) sg369 rfl rfl (Nat.le_of_ble_eq_true rfl) ⟨Nat.le_refl _, Nat.le_refl _⟩ (Mt.of2 (L := [some (vR 369)]) pnX12 rfl rfl ?_)
  refine wp_aload_n dX12_rows_0 rfl rfl ?_
  refine wp_getR (b := 375) dX12_rows_1 fX12_75 rfl sg369 (by decide) rfl ?_
  refine wp_iconst dX12_rows_4 (by decide) ?_
  refine wp_iald dX12_rows_5 sg375 (by decide) ?_
  refine wp_ireturn dX12_rows_6 rfl ⟨rfl, rfl⟩ ?_
  show Wp _ _ _ _ _ 31 _ [vI (V 375 0), vI x2] _ _ _ _ _
  refine wp_icmp_ge (tgt := 111) dX12_starts_31 rfl (fun c1 => ?_) (fun c1 => ?_)
  ·
    refine wp_aload_n dX12_starts_111 rfl rfl ?_
    refine wp_getR (b := 381) dX12_starts_112 fX12_93 rfl sg369 (by decide) rfl ?_
    refine wp_iload_n dX12_starts_115 rfl rfl ?_
    refine wp_bipush dX12_starts_116 (by decide) ?_
    refine wp_iadd dX12_starts_118 ?_
    refine wp_aload_n dX12_starts_119 rfl rfl ?_
    refine wp_getR (b := 375) dX12_starts_120 fX12_75 rfl sg369 (by decide) rfl ?_
    refine wp_iconst dX12_starts_123 (by decide) ?_
    refine wp_iald dX12_starts_124 sg375 (by decide) ?_
    refine wp_iast dX12_starts_125 sg381 (h.1 c1).1 ?_
    refine wp_iconst dX12_starts_126 (by decide) ?_
    refine wp_istore_n dX12_starts_127 rfl (by decide) rfl ?_
    exact (h.1 c1).2
  ·
    refine wp_aload_n dX12_starts_34 rfl rfl ?_
    refine wp_getR (b := 381) dX12_starts_35 fX12_93 rfl sg369 (by decide) rfl ?_
    refine wp_iload_n dX12_starts_38 rfl rfl ?_
    refine wp_iload_n dX12_starts_39 rfl rfl ?_
    refine wp_iadd dX12_starts_40 ?_
    refine wp_aload_n dX12_starts_41 rfl rfl ?_
    refine wp_getR (b := 375) dX12_starts_42 fX12_75 rfl sg369 (by decide) rfl ?_
    refine wp_iconst dX12_starts_45 (by decide) ?_
    refine wp_bipush dX12_starts_46 (by decide) ?_
    refine wp_iload_n dX12_starts_48 rfl rfl ?_
    refine wp_imul dX12_starts_49 ?_
    refine wp_iadd dX12_starts_50 ?_
    refine wp_iconst dX12_starts_51 (by decide) ?_
    refine wp_iadd dX12_starts_52 ?_
    refine wp_iald dX12_starts_53 sg375 (h.2 c1).1 ?_
    refine wp_iast dX12_starts_54 sg381 (h.2 c1).2.1 ?_
    refine wp_iconst dX12_starts_55 (by decide) ?_
    refine wp_istore_n dX12_starts_56 rfl (by decide) rfl ?_
    exact (h.2 c1).2.2

set_option maxHeartbeats 4000000 in
set_option maxRecDepth 10000 in
theorem uX12_starts_57 {K : KK} {d : Nat} {V : Mem} {Q : Option AV → Mem → Prop} (x1 : Int) (x2 : Int) (x3 : Int) (h : (((0 : Int) ≤ (w32 (x1 + x2)) ∧ (w32 (x1 + x2)) < (4532 : Nat)) ∧ (((V 381 (Int.toNat (w32 (x1 + x2)))) ≤ x3 → Wg K (d + 1) mX12_starts 26 [some (vR 369), some (vI x1), some (vI (w32 (x2 + 1))), none] [] V Q) ∧ (¬ ((V 381 (Int.toNat (w32 (x1 + x2)))) ≤ x3) → (((0 : Int) ≤ (w32 ((w32 ((w32 (3 + (w32 (22 * x2)))) + 2)) + x3)) ∧ (w32 ((w32 ((w32 (3 + (w32 (22 * x2)))) + 2)) + x3)) < (280 : Nat)) ∧ (((0 : Int) ≤ (w32 ((w32 ((w32 (x1 + 4)) + (w32 (20 * x2)))) + x3)) ∧ (w32 ((w32 ((w32 (x1 + 4)) + (w32 (20 * x2)))) + x3)) < (4532 : Nat)) ∧ Wg K (d + 1) mX12_starts 57 [some (vR 369), some (vI x1), some (vI x2), some (vI (w32 (x3 + 1)))] [] (upm V 381 (Int.toNat (w32 ((w32 ((w32 (x1 + 4)) + (w32 (20 * x2)))) + x3))) (V 375 (Int.toNat (w32 ((w32 ((w32 (3 + (w32 (22 * x2)))) + 2)) + x3))))) Q)))))) : Wg K (d + 1) mX12_starts 57 [some (vR 369), some (vI x1), some (vI x2), some (vI x3)] [] V Q := by
  refine wp_iload_n dX12_starts_57 rfl rfl ?_
  refine wp_aload_n dX12_starts_58 rfl rfl ?_
  refine wp_getR (b := 381) dX12_starts_59 fX12_93 rfl sg369 (by decide) rfl ?_
  refine wp_iload_n dX12_starts_62 rfl rfl ?_
  refine wp_iload_n dX12_starts_63 rfl rfl ?_
  refine wp_iadd dX12_starts_64 ?_
  refine wp_iald dX12_starts_65 sg381 h.1 ?_
  refine wp_icmp_ge (tgt := 105) dX12_starts_66 rfl (fun c1 => ?_) (fun c1 => ?_)
  ·
    refine wp_iinc dX12_starts_105 rfl rfl ?_
    refine wp_goto (tgt := 26) dX12_starts_108 rfl ?_
    exact wp_loc (L2 := [some (vR 369), some (vI x1), some (vI (w32 (x2 + 1))), none]) ⟨rfl, ⟨rfl, ⟨rfl, trivial⟩⟩⟩ (h.2.1 c1)
  ·
    refine wp_aload_n dX12_starts_69 rfl rfl ?_
    refine wp_getR (b := 381) dX12_starts_70 fX12_93 rfl sg369 (by decide) rfl ?_
    refine wp_iload_n dX12_starts_73 rfl rfl ?_
    refine wp_iconst dX12_starts_74 (by decide) ?_
    refine wp_iadd dX12_starts_75 ?_
    refine wp_bipush dX12_starts_76 (by decide) ?_
    refine wp_iload_n dX12_starts_78 rfl rfl ?_
    refine wp_imul dX12_starts_79 ?_
    refine wp_iadd dX12_starts_80 ?_
    refine wp_iload_n dX12_starts_81 rfl rfl ?_
    refine wp_iadd dX12_starts_82 ?_
    refine wp_aload_n dX12_starts_83 rfl rfl ?_
    refine wp_getR (b := 375) dX12_starts_84 fX12_75 rfl sg369 (by decide) rfl ?_
    refine wp_iconst dX12_starts_87 (by decide) ?_
    refine wp_bipush dX12_starts_88 (by decide) ?_
    refine wp_iload_n dX12_starts_90 rfl rfl ?_
    refine wp_imul dX12_starts_91 ?_
    refine wp_iadd dX12_starts_92 ?_
    refine wp_iconst dX12_starts_93 (by decide) ?_
    refine wp_iadd dX12_starts_94 ?_
    refine wp_iload_n dX12_starts_95 rfl rfl ?_
    refine wp_iadd dX12_starts_96 ?_
    refine wp_iald dX12_starts_97 sg375 (h.2.2 c1).1 ?_
    refine wp_iast dX12_starts_98 sg381 (h.2.2 c1).2.1 ?_
    refine wp_iinc dX12_starts_99 rfl rfl ?_
    refine wp_goto (tgt := 57) dX12_starts_102 rfl ?_
    exact (h.2.2 c1).2.2

set_option maxHeartbeats 4000000 in
set_option maxRecDepth 10000 in
theorem uX12_starts_128 {K : KK} {d : Nat} {V : Mem} {Q : Option AV → Mem → Prop} (x1 : Int) (x2 : Int) (h : (((V 375 1) ≤ x2 → Q none V) ∧ (¬ ((V 375 1) ≤ x2) → (((0 : Int) ≤ (w32 (91 + (w32 (11 * x2)))) ∧ (w32 (91 + (w32 (11 * x2)))) < (280 : Nat)) ∧ (((0 : Int) ≤ (w32 ((w32 (x1 + 85)) + x2)) ∧ (w32 ((w32 (x1 + 85)) + x2)) < (4532 : Nat)) ∧ (((0 : Int) ≤ (w32 ((w32 (x1 + 93)) + x2)) ∧ (w32 ((w32 (x1 + 93)) + x2)) < (4532 : Nat)) ∧ Wg K (d + 1) mX12_starts 175 [some (vR 369), some (vI x1), some (vI x2), some (vI 0)] [] (upm (upm V 381 (Int.toNat (w32 ((w32 (x1 + 85)) + x2))) (V 375 (Int.toNat (w32 (91 + (w32 (11 * x2))))))) 381 (Int.toNat (w32 ((w32 (x1 + 93)) + x2))) x2) Q)))))) : Wg K (d + 1) mX12_starts 128 [some (vR 369), some (vI x1), some (vI x2), none] [] V Q := by
  refine wp_iload_n dX12_starts_128 rfl rfl ?_
  refine wp_aload_n dX12_starts_129 rfl rfl ?_
  refine wp_getR (b := 375) dX12_starts_130 fX12_75 rfl sg369 (by decide) rfl ?_
  refine wp_iconst dX12_starts_133 (by decide) ?_
  refine wp_iald dX12_starts_134 sg375 (by decide) ?_
  refine wp_icmp_ge (tgt := 225) dX12_starts_135 rfl (fun c1 => ?_) (fun c1 => ?_)
  ·
    exact wp_return dX12_starts_225 rfl ⟨rfl, rfl⟩ ⟨rfl, (h.1 c1)⟩
  ·
    refine wp_aload_n dX12_starts_138 rfl rfl ?_
    refine wp_getR (b := 381) dX12_starts_139 fX12_93 rfl sg369 (by decide) rfl ?_
    refine wp_iload_n dX12_starts_142 rfl rfl ?_
    refine wp_bipush dX12_starts_143 (by decide) ?_
    refine wp_iadd dX12_starts_145 ?_
    refine wp_iload_n dX12_starts_146 rfl rfl ?_
    refine wp_iadd dX12_starts_147 ?_
    refine wp_aload_n dX12_starts_148 rfl rfl ?_
    refine wp_getR (b := 375) dX12_starts_149 fX12_75 rfl sg369 (by decide) rfl ?_
    refine wp_bipush dX12_starts_152 (by decide) ?_
    refine wp_bipush dX12_starts_154 (by decide) ?_
    refine wp_iload_n dX12_starts_156 rfl rfl ?_
    refine wp_imul dX12_starts_157 ?_
    refine wp_iadd dX12_starts_158 ?_
    refine wp_iald dX12_starts_159 sg375 (h.2 c1).1 ?_
    refine wp_iast dX12_starts_160 sg381 (h.2 c1).2.1 ?_
    refine wp_aload_n dX12_starts_161 rfl rfl ?_
    refine wp_getR (b := 381) dX12_starts_162 fX12_93 rfl sg369 (by decide) rfl ?_
    refine wp_iload_n dX12_starts_165 rfl rfl ?_
    refine wp_bipush dX12_starts_166 (by decide) ?_
    refine wp_iadd dX12_starts_168 ?_
    refine wp_iload_n dX12_starts_169 rfl rfl ?_
    refine wp_iadd dX12_starts_170 ?_
    refine wp_iload_n dX12_starts_171 rfl rfl ?_
    refine wp_iast dX12_starts_172 sg381 (h.2 c1).2.2.1 ?_
    refine wp_iconst dX12_starts_173 (by decide) ?_
    refine wp_istore_n dX12_starts_174 rfl (by decide) rfl ?_
    exact (h.2 c1).2.2.2

set_option maxHeartbeats 4000000 in
set_option maxRecDepth 10000 in
theorem uX12_starts_175 {K : KK} {d : Nat} {V : Mem} {Q : Option AV → Mem → Prop} (x1 : Int) (x2 : Int) (x3 : Int) (h : ((10 ≤ x3 → Wg K (d + 1) mX12_starts 128 [some (vR 369), some (vI x1), some (vI (w32 (x2 + 1))), none] [] V Q) ∧ (¬ (10 ≤ x3) → (((0 : Int) ≤ (w32 ((w32 ((w32 (91 + (w32 (11 * x2)))) + 1)) + x3)) ∧ (w32 ((w32 ((w32 (91 + (w32 (11 * x2)))) + 1)) + x3)) < (280 : Nat)) ∧ (((0 : Int) ≤ (w32 ((w32 ((w32 (x1 + 101)) + (w32 (10 * x2)))) + x3)) ∧ (w32 ((w32 ((w32 (x1 + 101)) + (w32 (10 * x2)))) + x3)) < (4532 : Nat)) ∧ Wg K (d + 1) mX12_starts 175 [some (vR 369), some (vI x1), some (vI x2), some (vI (w32 (x3 + 1)))] [] (upm V 381 (Int.toNat (w32 ((w32 ((w32 (x1 + 101)) + (w32 (10 * x2)))) + x3))) (V 375 (Int.toNat (w32 ((w32 ((w32 (91 + (w32 (11 * x2)))) + 1)) + x3))))) Q))))) : Wg K (d + 1) mX12_starts 175 [some (vR 369), some (vI x1), some (vI x2), some (vI x3)] [] V Q := by
  refine wp_iload_n dX12_starts_175 rfl rfl ?_
  refine wp_bipush dX12_starts_176 (by decide) ?_
  refine wp_icmp_ge (tgt := 219) dX12_starts_178 rfl (fun c1 => ?_) (fun c1 => ?_)
  ·
    refine wp_iinc dX12_starts_219 rfl rfl ?_
    refine wp_goto (tgt := 128) dX12_starts_222 rfl ?_
    exact wp_loc (L2 := [some (vR 369), some (vI x1), some (vI (w32 (x2 + 1))), none]) ⟨rfl, ⟨rfl, ⟨rfl, trivial⟩⟩⟩ (h.1 c1)
  ·
    refine wp_aload_n dX12_starts_181 rfl rfl ?_
    refine wp_getR (b := 381) dX12_starts_182 fX12_93 rfl sg369 (by decide) rfl ?_
    refine wp_iload_n dX12_starts_185 rfl rfl ?_
    refine wp_bipush dX12_starts_186 (by decide) ?_
    refine wp_iadd dX12_starts_188 ?_
    refine wp_bipush dX12_starts_189 (by decide) ?_
    refine wp_iload_n dX12_starts_191 rfl rfl ?_
    refine wp_imul dX12_starts_192 ?_
    refine wp_iadd dX12_starts_193 ?_
    refine wp_iload_n dX12_starts_194 rfl rfl ?_
    refine wp_iadd dX12_starts_195 ?_
    refine wp_aload_n dX12_starts_196 rfl rfl ?_
    refine wp_getR (b := 375) dX12_starts_197 fX12_75 rfl sg369 (by decide) rfl ?_
    refine wp_bipush dX12_starts_200 (by decide) ?_
    refine wp_bipush dX12_starts_202 (by decide) ?_
    refine wp_iload_n dX12_starts_204 rfl rfl ?_
    refine wp_imul dX12_starts_205 ?_
    refine wp_iadd dX12_starts_206 ?_
    refine wp_iconst dX12_starts_207 (by decide) ?_
    refine wp_iadd dX12_starts_208 ?_
    refine wp_iload_n dX12_starts_209 rfl rfl ?_
    refine wp_iadd dX12_starts_210 ?_
    refine wp_iald dX12_starts_211 sg375 (h.2 c1).1 ?_
    refine wp_iast dX12_starts_212 sg381 (h.2 c1).2.1 ?_
    refine wp_iinc dX12_starts_213 rfl rfl ?_
    refine wp_goto (tgt := 175) dX12_starts_216 rfl ?_
    exact (h.2 c1).2.2

set_option maxHeartbeats 4000000 in
set_option maxRecDepth 10000 in
theorem uX12_begins {K : KK} {d : Nat} {V : Mem} {Q : Option AV → Mem → Prop}  (h : Mg K d mX12_starts [vR 369, vI 0] V (fun r V1 => r = none ∧ Wg K (d + 1) mX12_begins 38 [some (vR 369), some (vI 0)] [] (upm (upm (upm (upm V1 381 181 0) 369 19 ((upm V1 381 181 0) 375 1)) 378 0 0) 369 18 0) Q)) : Mg K (d + 1) mX12_begins [vR 369] V Q := by
  refine Mt.of2 (L := [some (vR 369), none]) pnX12 rfl rfl ?_
  refine wp_aload_n dX12_begins_0 rfl rfl ?_
  refine wp_iconst dX12_begins_1 (by decide) ?_
  refine wp_callV (S := []) (as := [vI 0]) dX12_begins_2 lX12_276 (h) (by omega) sg369 rfl rfl (Nat.le_of_ble_eq_true rfl) ⟨Nat.le_refl _, Nat.le_refl _⟩ ?_
  rintro _ _ V1 ⟨rfl, rfl, q1⟩
  show Wp _ _ _ _ _ 5 _ [] _ _ _ _ _
  refine wp_aload_n dX12_begins_5 rfl rfl ?_
  refine wp_getR (b := 381) dX12_begins_6 fX12_93 rfl sg369 (by decide) rfl ?_
  refine wp_sipush dX12_begins_9 (by decide) ?_
  refine wp_iconst dX12_begins_12 (by decide) ?_
  refine wp_iast dX12_begins_13 sg381 (by decide) ?_
  refine wp_aload_n dX12_begins_14 rfl rfl ?_
  refine wp_aload_n dX12_begins_15 rfl rfl ?_
  refine wp_getR (b := 375) dX12_begins_16 fX12_75 rfl sg369 (by decide) rfl ?_
  refine wp_iconst dX12_begins_19 (by decide) ?_
  refine wp_iald dX12_begins_20 sg375 (by decide) ?_
  refine wp_putI dX12_begins_21 fwX12_279 rfl sg369 (by decide) ?_
  refine wp_aload_n dX12_begins_24 rfl rfl ?_
  refine wp_getR (b := 378) dX12_begins_25 fX12_84 rfl sg369 (by decide) rfl ?_
  refine wp_iconst dX12_begins_28 (by decide) ?_
  refine wp_iconst dX12_begins_29 (by decide) ?_
  refine wp_iast dX12_begins_30 sg378 (by decide) ?_
  refine wp_aload_n dX12_begins_31 rfl rfl ?_
  refine wp_iconst dX12_begins_32 (by decide) ?_
  refine wp_putI dX12_begins_33 fwX12_282 rfl sg369 (by decide) ?_
  refine wp_iconst dX12_begins_36 (by decide) ?_
  refine wp_istore_n dX12_begins_37 rfl (by decide) rfl ?_
  exact q1

set_option maxHeartbeats 4000000 in
set_option maxRecDepth 10000 in
theorem uX12_begins_38 {K : KK} {d : Nat} {V : Mem} {Q : Option AV → Mem → Prop} (x1 : Int) (h : ((4 ≤ x1 → Q none V) ∧ (¬ (4 ≤ x1) → (((0 : Int) ≤ x1 ∧ x1 < (4 : Nat)) ∧ ((0 : Int) = 0 ∨ (0 : Int) = 1) ∧ Wg K (d + 1) mX12_begins 38 [some (vR 369), some (vI (w32 (x1 + 1)))] [] (upm V 382 (Int.toNat x1) 0) Q)))) : Wg K (d + 1) mX12_begins 38 [some (vR 369), some (vI x1)] [] V Q := by
  refine wp_iload_n dX12_begins_38 rfl rfl ?_
  refine wp_iconst dX12_begins_39 (by decide) ?_
  refine wp_icmp_ge (tgt := 56) dX12_begins_40 rfl (fun c1 => ?_) (fun c1 => ?_)
  ·
    exact wp_return dX12_begins_56 rfl ⟨rfl, rfl⟩ ⟨rfl, (h.1 c1)⟩
  ·
    refine wp_aload_n dX12_begins_43 rfl rfl ?_
    refine wp_getR (b := 382) dX12_begins_44 fX12_96 rfl sg369 (by decide) rfl ?_
    refine wp_iload_n dX12_begins_47 rfl rfl ?_
    refine wp_iconst dX12_begins_48 (by decide) ?_
    refine wp_zast dX12_begins_49 sg382 (h.2 c1).1 (h.2 c1).2.1 ?_
    refine wp_iinc dX12_begins_50 rfl rfl ?_
    refine wp_goto (tgt := 38) dX12_begins_53 rfl ?_
    exact (h.2 c1).2.2

section STG
variable {K : KK} {d : Nat} {V : Mem}
theorem g_starts {b R BT : Nat} (hb : b ≤ 4326) (h0 : V 375 0 = R) (hR : R ≤ 4) (h1 : V 375 1 = BT) (hB : BT ≤ 4) (hm : ∀ r, r < R → 1 ≤ V 375 (4 + 22 * r) ∧ V 375 (4 + 22 * r) ≤ 20) : Mvg K (d + 1) mX12_starts [vR 369, vI (b : Int)] V (fun V' => (∀ c, c ≠ 381 → V' c = V c) ∧ (∀ j, j < b ∨ b + 181 ≤ j → V' 381 j = V 381 j) ∧ StI (V 375) R BT (bk V' b)) := by
  refine uX12_starts _ ?_
  -- braids
  have wqC : ∀ V1 : Mem, (∀ c, c ≠ 381 → V1 c = V c) → (∀ j, j < b ∨ b + 181 ≤ j → V1 381 j = V 381 j) → (∀ r, r < R → bk V1 b r = V 375 (4 + 22 * r) ∧ ∀ p, p < (V 375 (4 + 22 * r)).toNat → bk V1 b (4 + 20 * r + p) = V 375 (5 + 22 * r + p)) → bk V1 b 84 = BT → ∀ k, k ≤ BT → ∀ V' : Mem, (∀ c, c ≠ 381 → V' c = V1 c) → (∀ j, j < b + 85 ∨ b + 181 ≤ j → V' 381 j = V1 381 j) → (∀ q, q < k → bk V' b (85 + q) = V 375 (91 + 11 * q) ∧ bk V' b (93 + q) = q ∧ ∀ s, s < 10 → bk V' b (101 + 10 * q + s) = V 375 (92 + 11 * q + s)) → Wg K (d + 1) mX12_starts 128 [some (vR 369), some (vI (b : Int)), some (vI (k : Int)), none] [] V' (fun r V' => r = none ∧ (∀ c, c ≠ 381 → V' c = V c) ∧ (∀ j, j < b ∨ b + 181 ≤ j → V' 381 j = V 381 j) ∧ StI (V 375) R BT (bk V' b)) := by
    intro V1 f1 f2 f3 f4
    refine up_ind ?_ ?_
    · intro V' g1 g2 g3
      have e : ∀ i, i < 85 → bk V' b i = bk V1 b i := fun i hi => g2 _ (by omega)
      refine uX12_starts_128 _ _ ⟨fun _ => ⟨rfl, fun c q => by rw [g1 c q]; exact f1 c q, fun j q => by rw [g2 j (by omega)]; exact f2 j q, fun r hr => ?_, by rw [e 84 (by omega)]; exact f4, g3⟩, fun c => absurd (by rw [g1 375 (by decide), f1 375 (by decide), h1]; exact Int.le_refl _) c⟩
      have := hm r hr
      exact ⟨by rw [e r (by omega)]; exact (f3 r hr).1, fun p hp => by rw [e _ (by omega)]; exact (f3 r hr).2 p hp⟩
    · intro k hk ih V' g1 g2 g3
      have e375 : V' 375 = V 375 := by rw [g1 375 (by decide), f1 375 (by decide)]
      refine uX12_starts_128 _ _ ⟨fun c => absurd c (by rw [e375, h1]; omega), fun _ => ?_⟩
      rw [js3 (show k < 8 by omega), ix5 hb (show k < 8 by omega), js5 hb (show k < 8 by omega), tn, tn, tn, e375]
      refine ⟨⟨by omega, by omega⟩, ⟨by omega, by omega⟩, ⟨by omega, by omega⟩, ?_⟩
      have wqD : ∀ s, s ≤ 10 → ∀ V3 : Mem, (∀ c, c ≠ 381 → V3 c = V1 c) → (∀ j, j < b + 85 ∨ b + 181 ≤ j → V3 381 j = V1 381 j) → (∀ q, q < k → bk V3 b (85 + q) = V 375 (91 + 11 * q) ∧ bk V3 b (93 + q) = q ∧ ∀ s, s < 10 → bk V3 b (101 + 10 * q + s) = V 375 (92 + 11 * q + s)) → bk V3 b (85 + k) = V 375 (91 + 11 * k) → bk V3 b (93 + k) = k → (∀ t, t < s → bk V3 b (101 + 10 * k + t) = V 375 (92 + 11 * k + t)) → Wg K (d + 1) mX12_starts 175 [some (vR 369), some (vI (b : Int)), some (vI (k : Int)), some (vI (s : Int))] [] V3 (fun r V' => r = none ∧ (∀ c, c ≠ 381 → V' c = V c) ∧ (∀ j, j < b ∨ b + 181 ≤ j → V' 381 j = V 381 j) ∧ StI (V 375) R BT (bk V' b)) := by
        refine up_ind ?_ ?_
        · intro V3 j1 j2 j3 j4 j5 j6
          refine uX12_starts_175 _ _ _ ⟨fun _ => ?_, fun c => absurd (by decide) c⟩
          rw [w32_s (i := k) (by omega)]
          refine ih V3 j1 j2 (fun q hq => ?_)
          by_cases c : q = k
          · rw [c]; exact ⟨j4, j5, j6⟩
          · exact j3 q (by omega)
        · intro s hs ih2 V3 j1 j2 j3 j4 j5 j6
          refine uX12_starts_175 _ _ _ ⟨fun c => by omega, fun _ => ?_⟩
          rw [js4 (show k < 8 by omega) (show s ≤ 10 by omega), ixe hb (show k < 8 by omega) (show s < 10 by omega), tn, tn, w32_s (i := s) (by omega), j1 375 (by decide), f1 375 (by decide)]
          have o : ∀ i, i ≠ 101 + 10 * k + s → bk (upm V3 381 (b + (101 + 10 * k + s)) (V 375 (92 + 11 * k + s))) b i = bk V3 b i := fun i hi => by
            show upm V3 381 _ _ 381 (b + i) = V3 381 (b + i)
            rw [upm_k (by omega)]
          refine ⟨⟨by omega, by omega⟩, ⟨by omega, by omega⟩, ih2 _ (fun c q => (upm_off c q).trans (j1 c q)) (fun j q => by rw [upm_k (by omega)]; exact j2 j q) (fun q hq => ?_) (by rw [o _ (by omega)]; exact j4) (by rw [o _ (by omega)]; exact j5) (fun t ht => ?_)⟩
          · obtain ⟨x1, x2, x3⟩ := j3 q hq
            exact ⟨by rw [o _ (by omega)]; exact x1, by rw [o _ (by omega)]; exact x2, fun t ht => by rw [o _ (by omega)]; exact x3 t ht⟩
          · by_cases c : t = s
            · rw [c]
              show upm V3 381 _ _ 381 _ = _
              rw [upm_s]
            · rw [o _ (by omega)]; exact j6 t (by omega)
      have o : ∀ i, i ≠ 85 + k → i ≠ 93 + k → bk (upm (upm V' 381 (b + (85 + k)) (V 375 (91 + 11 * k))) 381 (b + (93 + k)) (k : Int)) b i = bk V' b i := fun i q1 q2 => by
        show upm (upm V' 381 _ _) 381 _ _ 381 (b + i) = V' 381 (b + i)
        rw [upm_k (by omega), upm_k (by omega)]
      refine wqD 0 (by omega) _ (fun c q => by rw [upm_off c q, upm_off c q]; exact g1 c q) (fun j q => by rw [upm_k (by omega), upm_k (by omega)]; exact g2 j q) (fun q hq => ?_) ?_ ?_ (fun t ht => absurd ht (Nat.not_lt_zero t))
      · obtain ⟨x1, x2, x3⟩ := g3 q hq
        exact ⟨by rw [o _ (by omega) (by omega)]; exact x1, by rw [o _ (by omega) (by omega)]; exact x2, fun t ht => by rw [o _ (by omega) (by omega)]; exact x3 t ht⟩
      · show upm (upm V' 381 _ _) 381 _ _ 381 (b + (85 + k)) = _
        rw [upm_k (by omega), upm_s]
      · show upm (upm V' 381 _ _) 381 _ _ 381 (b + (93 + k)) = _
        rw [upm_s]
  -- rows
  have wqB : ∀ r, r ≤ R → ∀ V' : Mem, (∀ c, c ≠ 381 → V' c = V c) → (∀ j, j < b ∨ b + 181 ≤ j → V' 381 j = V 381 j) → (∀ q, q < r → bk V' b q = V 375 (4 + 22 * q) ∧ ∀ p, p < (V 375 (4 + 22 * q)).toNat → bk V' b (4 + 20 * q + p) = V 375 (5 + 22 * q + p)) → Wg K (d + 1) mX12_starts 26 [some (vR 369), some (vI (b : Int)), some (vI (r : Int)), none] [] V' (fun r V' => r = none ∧ (∀ c, c ≠ 381 → V' c = V c) ∧ (∀ j, j < b ∨ b + 181 ≤ j → V' 381 j = V 381 j) ∧ StI (V 375) R BT (bk V' b)) := by
    refine up_ind ?_ ?_
    · intro V' g1 g2 g3
      refine uX12_starts_26 _ _ ⟨fun _ => ?_, fun c => absurd (by rw [g1 375 (by decide), h0]; exact Int.le_refl _) c⟩
      rw [ix4 hb, tn, g1 375 (by decide), h1]
      have o : ∀ i, i ≠ 84 → bk (upm V' 381 (b + 84) (BT : Int)) b i = bk V' b i := fun i q1 => by
        show upm V' 381 _ _ 381 (b + i) = V' 381 (b + i)
        rw [upm_k (by omega)]
      refine ⟨⟨by omega, by omega⟩, wqC _ (fun c q => by rw [upm_off c q]; exact g1 c q) (fun j q => by rw [upm_k (by omega)]; exact g2 j q) (fun r hr => ?_) ?_ 0 (Nat.zero_le _) _ (fun _ _ => rfl) (fun _ _ => rfl) (fun q hq => absurd hq (Nat.not_lt_zero q))⟩
      · have := hm r hr
        exact ⟨by rw [o _ (by omega)]; exact (g3 r hr).1, fun p hp => by rw [o _ (by omega)]; exact (g3 r hr).2 p hp⟩
      · show upm V' 381 _ _ 381 (b + 84) = _
        rw [upm_s]
    · intro r hr ih V' g1 g2 g3
      obtain ⟨m, hm1⟩ : ∃ m : Nat, V 375 (4 + 22 * r) = m := ⟨(V 375 (4 + 22 * r)).toNat, by have := hm r hr; omega⟩
      have hmr := hm r hr
      refine uX12_starts_26 _ _ ⟨fun c => absurd c (by rw [g1 375 (by decide), h0]; omega), fun _ => ?_⟩
      rw [js1 (show r < 4 by omega), ixad (show b + r < 5000 by omega), tn, tn, g1 375 (by decide), hm1]
      refine ⟨⟨by omega, by omega⟩, ⟨by omega, by omega⟩, ?_⟩
      have wqD : ∀ p, p ≤ m → ∀ V3 : Mem, (∀ c, c ≠ 381 → V3 c = V c) → (∀ j, j < b ∨ b + 181 ≤ j → V3 381 j = V 381 j) → (∀ q, q < r → bk V3 b q = V 375 (4 + 22 * q) ∧ ∀ p, p < (V 375 (4 + 22 * q)).toNat → bk V3 b (4 + 20 * q + p) = V 375 (5 + 22 * q + p)) → bk V3 b r = m → (∀ t, t < p → bk V3 b (4 + 20 * r + t) = V 375 (5 + 22 * r + t)) → Wg K (d + 1) mX12_starts 57 [some (vR 369), some (vI (b : Int)), some (vI (r : Int)), some (vI (p : Int))] [] V3 (fun r V' => r = none ∧ (∀ c, c ≠ 381 → V' c = V c) ∧ (∀ j, j < b ∨ b + 181 ≤ j → V' 381 j = V 381 j) ∧ StI (V 375) R BT (bk V' b)) := by
        refine up_ind ?_ ?_
        · intro V3 j1 j2 j3 j4 j5
          refine uX12_starts_57 _ _ _ ?_
          rw [ixad (show b + r < 5000 by omega), tn, show V3 381 (b + r) = bk V3 b r from rfl, j4, w32_s (i := r) (by omega)]
          refine ⟨⟨by omega, by omega⟩, fun _ => ih V3 j1 j2 (fun q hq => ?_), fun c => absurd (Int.le_refl _) c⟩
          by_cases c : q = r
          · rw [c, hm1]; exact ⟨j4, j5⟩
          · exact j3 q (by omega)
        · intro p hp ih2 V3 j1 j2 j3 j4 j5
          refine uX12_starts_57 _ _ _ ?_
          rw [ixad (show b + r < 5000 by omega), tn, show V3 381 (b + r) = bk V3 b r from rfl, j4, js2 (show r < 4 by omega) (show p ≤ 20 by omega), ixn hb (show r < 4 by omega) (show p ≤ 20 by omega), tn, tn, w32_s (i := p) (by omega), j1 375 (by decide)]
          have o : ∀ i, i ≠ 4 + 20 * r + p → bk (upm V3 381 (b + (4 + 20 * r + p)) (V 375 (5 + 22 * r + p))) b i = bk V3 b i := fun i hi => by
            show upm V3 381 _ _ 381 (b + i) = V3 381 (b + i)
            rw [upm_k (by omega)]
          refine ⟨⟨by omega, by omega⟩, fun c => by omega, fun _ => ⟨⟨by omega, by omega⟩, ⟨by omega, by omega⟩, ih2 _ (fun c q => (upm_off c q).trans (j1 c q)) (fun j q => by rw [upm_k (by omega)]; exact j2 j q) (fun q hq => ?_) (by rw [o _ (by omega)]; exact j4) (fun t ht => ?_)⟩⟩
          · have := hm q (by omega)
            exact ⟨by rw [o _ (by omega)]; exact (j3 q hq).1, fun t ht => by rw [o _ (by omega)]; exact (j3 q hq).2 t ht⟩
          · by_cases c : t = p
            · rw [c]
              show upm V3 381 _ _ 381 _ = _
              rw [upm_s]
            · rw [o _ (by omega)]; exact j5 t (by omega)
      have o : ∀ i, i ≠ r → bk (upm V' 381 (b + r) (m : Int)) b i = bk V' b i := fun i hi => by
        show upm V' 381 _ _ 381 (b + i) = V' 381 (b + i)
        rw [upm_k (by omega)]
      refine wqD 0 (Nat.zero_le _) _ (fun c q => by rw [upm_off c q]; exact g1 c q) (fun j q => by rw [upm_k (by omega)]; exact g2 j q) (fun q hq => ?_) ?_ (fun t ht => absurd ht (Nat.not_lt_zero t))
      · have := hm q (by omega)
        exact ⟨by rw [o _ (by omega)]; exact (g3 q hq).1, fun p hp => by rw [o _ (by omega)]; exact (g3 q hq).2 p hp⟩
      · show upm V' 381 _ _ 381 (b + r) = _
        rw [upm_s]
  have wqA : ∀ k : Nat, k ≤ 181 → ∀ V' : Mem, (∀ c, c ≠ 381 → V' c = V c) → (∀ j, j < b ∨ b + 181 ≤ j → V' 381 j = V 381 j) → Wg K (d + 1) mX12_starts 2 [some (vR 369), some (vI (b : Int)), some (vI (k : Int)), none] [] V' (fun r V' => r = none ∧ (∀ c, c ≠ 381 → V' c = V c) ∧ (∀ j, j < b ∨ b + 181 ≤ j → V' 381 j = V 381 j) ∧ StI (V 375) R BT (bk V' b)) := by
    refine up_ind ?_ ?_
    · intro V' g1 g2
      exact uX12_starts_2 _ _ ⟨fun _ => wqB 0 (Nat.zero_le _) V' g1 g2 (fun q hq => absurd hq (Nat.not_lt_zero q)), fun c => absurd (by decide) c⟩
    · intro k hk ih V' g1 g2
      refine uX12_starts_2 _ _ ⟨fun c => by omega, fun _ => ?_⟩
      rw [ixad (show b + k < 5000 by omega), tn, w32_s (i := k) (by omega)]
      exact ⟨⟨by omega, by omega⟩, ih _ (fun c q => (upm_off c q).trans (g1 c q)) (fun j q => by rw [upm_k (by omega)]; exact g2 j q)⟩
  exact wqA 0 (by omega) V (fun _ _ => rfl) (fun _ _ => rfl)

theorem g_begins {R BT : Nat} (h0 : V 375 0 = R) (hR : R ≤ 4) (h1 : V 375 1 = BT) (hB : BT ≤ 4) (hm : ∀ r, r < R → 1 ≤ V 375 (4 + 22 * r) ∧ V 375 (4 + 22 * r) ≤ 20) : Mvg K (d + 2) mX12_begins [vR 369] V (fun V' => (∀ c, c ≠ 369 → c ≠ 378 → c ≠ 381 → c ≠ 382 → V' c = V c) ∧ (∀ j, j ≠ 18 → j ≠ 19 → V' 369 j = V 369 j) ∧ V' 369 19 = BT ∧ V' 369 18 = 0 ∧ V' 378 0 = 0 ∧ V' 381 181 = 0 ∧ StI (V 375) R BT (V' 381) ∧ ∀ m, m < 4 → V' 382 m = 0) := by
  refine uX12_begins (Mvg.use (g_starts (d := d) (b := 0) (by omega) h0 hR h1 hB hm) ?_)
  rintro X ⟨x1, x2, x3⟩
  rw [upm_off 375 (by decide), x1 375 (by decide), h1]
  generalize hY : upm (upm (upm (upm X 381 181 0) 369 19 (BT : Int)) 378 0 0) 369 18 0 = Y
  have yC : ∀ c, c ≠ 369 → c ≠ 378 → c ≠ 381 → Y c = V c := fun c p1 p2 p3 => by rw [← hY, upm_off c p1, upm_off c p2, upm_off c p1, upm_off c p3]; exact x1 c p3
  have y9 : ∀ j, j ≠ 18 → j ≠ 19 → Y 369 j = V 369 j := fun j p1 p2 => by rw [← hY, upm_k p1, upm_off 369 (by decide), upm_k p2, upm_off 369 (by decide), x1 369 (by decide)]
  have y19 : Y 369 19 = BT := by rw [← hY, upm_k (by decide), upm_off 369 (by decide), upm_s]
  have y18 : Y 369 18 = 0 := by rw [← hY, upm_s]
  have y78 : Y 378 0 = 0 := by rw [← hY, upm_off 378 (by decide), upm_s]
  have y181 : Y 381 181 = 0 := by rw [← hY, upm_off 381 (by decide), upm_off 381 (by decide), upm_off 381 (by decide), upm_s]
  have y81 : ∀ j, j < 181 → Y 381 j = bk X 0 j := fun j p => by
    rw [← hY, upm_off 381 (by decide), upm_off 381 (by decide), upm_off 381 (by decide), upm_k (by omega)]
    show X 381 j = X 381 (0 + j)
    rw [Nat.zero_add]
  have yS : StI (V 375) R BT (Y 381) := x3.congr hR hB hm y81
  clear hY
  have loop : ∀ k, k ≤ 4 → ∀ W : Mem, (∀ c, c ≠ 382 → W c = Y c) → (∀ m, m < k → W 382 m = 0) → Wg K (d + 2) mX12_begins 38 [some (vR 369), some (vI (k : Int))] [] W (fun r V' => r = none ∧ (∀ c, c ≠ 369 → c ≠ 378 → c ≠ 381 → c ≠ 382 → V' c = V c) ∧ (∀ j, j ≠ 18 → j ≠ 19 → V' 369 j = V 369 j) ∧ V' 369 19 = BT ∧ V' 369 18 = 0 ∧ V' 378 0 = 0 ∧ V' 381 181 = 0 ∧ StI (V 375) R BT (V' 381) ∧ ∀ m, m < 4 → V' 382 m = 0) := by
    refine up_ind ?_ ?_
    · intro W w1 w2
      refine uX12_begins_38 _ ⟨fun _ => ⟨rfl, fun c p1 p2 p3 p4 => by rw [w1 c p4]; exact yC c p1 p2 p3, fun j p1 p2 => by rw [w1 369 (by decide)]; exact y9 j p1 p2, by rw [w1 369 (by decide)]; exact y19, by rw [w1 369 (by decide)]; exact y18, by rw [w1 378 (by decide)]; exact y78, by rw [w1 381 (by decide)]; exact y181, by rw [w1 381 (by decide)]; exact yS, w2⟩, fun q => absurd (by decide) q⟩
    · intro k hk ih W w1 w2
      refine uX12_begins_38 _ ⟨fun q => by omega, fun _ => ?_⟩
      rw [tn, w32_s (i := k) (by omega)]
      refine ⟨⟨by omega, by omega⟩, Or.inl rfl, ih _ (fun c p => by rw [upm_off c p]; exact w1 c p) (fun m hm => ?_)⟩
      by_cases c : m = k
      · rw [c, upm_s]
      · rw [upm_k c]; exact w2 m (by omega)
  exact loop 0 (by omega) Y (fun _ _ => rfl) (fun m hm => by omega)

theorem g_stands : Mvg K d mX12_standsAsAlways [vR 369, vI 0] V (fun V' => (∀ c, c ≠ 375 → V' c = V c) ∧ V' 375 2 = -1 ∧ ∀ k, k < 140 → k ≠ 2 → V' 375 k = 0) := by
  have e2 : (w32 (0 + 2)).toNat = 2 := by decide
  have loop : ∀ k, k ≤ 140 → ∀ W : Mem, (∀ c, c ≠ 375 → W c = V c) → (∀ q, q < k → W 375 q = 0) → Wg K d mX12_standsAsAlways 2 [some (vR 369), some (vI 0), some (vI (k : Int))] [] W (fun r V' => r = none ∧ (∀ c, c ≠ 375 → V' c = V c) ∧ V' 375 2 = -1 ∧ ∀ k, k < 140 → k ≠ 2 → V' 375 k = 0) := by
    refine up_ind ?_ ?_
    · intro W w1 w3
      refine uX12_standsAsAlways_2 _ _ ⟨fun _ => ⟨by decide, ?_⟩, fun q => absurd (by decide) q⟩
      rw [e2]
      exact ⟨rfl, fun c p => by rw [upm_off c p]; exact w1 c p, upm_s _ _ _ _, fun k p1 p2 => by rw [upm_k p2]; exact w3 k p1⟩
    · intro k hk ih W w1 w3
      refine uX12_standsAsAlways_2 _ _ ⟨fun q => by omega, fun _ => ?_⟩
      rw [show w32 (0 + (k : Int)) = ((k : Nat) : Int) by rw [w32_id (by omega) (by omega)]; omega, tn, w32_s (i := k) (by omega)]
      refine ⟨⟨by omega, by omega⟩, ih _ (fun c p => by rw [upm_off c p]; exact w1 c p) (fun q hq => ?_)⟩
      by_cases c : q = k
      · rw [c, upm_s]
      · rw [upm_k c]; exact w3 q (by omega)
  exact uX12_standsAsAlways _ (loop 0 (by omega) V (fun _ _ => rfl) (fun q hq => by omega))

end STG
