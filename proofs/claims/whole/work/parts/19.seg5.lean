/-! ===== segments X12, by program ===== -/
set_option maxHeartbeats 4000000 in
set_option maxRecDepth 10000 in
theorem sX12_thrown {K : KK} {d : Nat} {V : Mem} {Q : Option AV → Mem → Prop}  (h : Q (some (vI (V 369 0))) V) : Mf K d mX12_thrown [vR 369] V Q := by
  refine Mt.of2 (L := [some (vR 369)]) pnX12 rfl rfl ?_
  refine wp_aload_n dX12_thrown_0 rfl rfl ?_
  refine wp_getI dX12_thrown_1 fX12_1 rfl sh369 (by decide) ?_
  exact wp_ireturn dX12_thrown_4 rfl ⟨rfl, rfl⟩ ⟨rfl, h⟩
set_option maxHeartbeats 4000000 in
set_option maxRecDepth 10000 in
theorem sX12_feed {K : KK} {d : Nat} {V : Mem} {Q : Option AV → Mem → Prop} (j1 : Int) (j3 : Int) (j5 : Int) (h : Mf K d mX12_lay [vR 369, vJ j1] (upm V 369 0 0) (fun r V1 => r = none ∧ Mf K d mX12_lay [vR 369, vJ j3] V1 (fun r V2 => r = none ∧ Mf K d mX12_lay [vR 369, vJ j5] V2 (fun r V3 => r = none ∧ Q (some (vI (V3 369 2))) V3)))) : Mf K (d + 1) mX12_feed [vR 369, vJ j1, vJ j3, vJ j5] V Q := by
  refine Mt.of2 (L := [some (vR 369), some (vJ j1), none, some (vJ j3), none, some (vJ j5), none]) pnX12 rfl rfl ?_
  refine wp_aload_n dX12_feed_0 rfl rfl ?_
  refine wp_iconst dX12_feed_1 (by decide) ?_
  refine wp_putI dX12_feed_2 fwX12_1 rfl sh369 (by decide) ?_
  refine wp_aload_n dX12_feed_5 rfl rfl ?_
  refine wp_lload_n dX12_feed_6 rfl rfl ?_
  refine wp_callV (S := []) (as := [vJ j1]) dX12_feed_7 lX12_7 (h) (by omega) sh369 rfl rfl (Nat.le_of_ble_eq_true rfl) ⟨Nat.le_refl _, Nat.le_refl _⟩ ?_
  rintro _ _ V1 ⟨rfl, rfl, q1⟩
  show Wp _ _ _ _ _ 10 _ [] _ _ _ _ _
  refine wp_aload_n dX12_feed_10 rfl rfl ?_
  refine wp_lload_n dX12_feed_11 rfl rfl ?_
  refine wp_callV (S := []) (as := [vJ j3]) dX12_feed_12 lX12_7 (q1) (by omega) sh369 rfl rfl (Nat.le_of_ble_eq_true rfl) ⟨Nat.le_refl _, Nat.le_refl _⟩ ?_
  rintro _ _ V2 ⟨rfl, rfl, q2⟩
  show Wp _ _ _ _ _ 15 _ [] _ _ _ _ _
  refine wp_aload_n dX12_feed_15 rfl rfl ?_
  refine wp_lload dX12_feed_16 rfl ?_
  refine wp_callV (S := []) (as := [vJ j5]) dX12_feed_18 lX12_7 (q2) (by omega) sh369 rfl rfl (Nat.le_of_ble_eq_true rfl) ⟨Nat.le_refl _, Nat.le_refl _⟩ ?_
  rintro _ _ V3 ⟨rfl, rfl, q3⟩
  show Wp _ _ _ _ _ 21 _ [] _ _ _ _ _
  refine wp_aload_n dX12_feed_21 rfl rfl ?_
  refine wp_getI dX12_feed_22 fX12_11 rfl sh369 (by decide) ?_
  exact wp_ireturn dX12_feed_25 rfl ⟨rfl, rfl⟩ ⟨rfl, q3⟩
set_option maxHeartbeats 4000000 in
set_option maxRecDepth 10000 in
theorem sX12_lay {K : KK} {d : Nat} {V : Mem} {Q : Option AV → Mem → Prop} (j1 : Int) (h : Wf K d mX12_lay 3 [some (vR 369), some (vJ j1), none, some (vI 56), none] [] V Q) : Mf K d mX12_lay [vR 369, vJ j1] V Q := by
  refine Mt.of2 (L := [some (vR 369), some (vJ j1), none, none, none]) pnX12 rfl rfl ?_
  refine wp_bipush dX12_lay_0 (by decide) ?_
  refine wp_istore_n dX12_lay_2 rfl (by decide) rfl ?_
  exact h
set_option maxHeartbeats 4000000 in
set_option maxRecDepth 10000 in
theorem sX12_lay_3 {K : KK} {d : Nat} {V : Mem} {Q : Option AV → Mem → Prop} (j1 : Int) (x3 : Int) (h : ((x3 < 0 → Q none V) ∧ (¬ (x3 < 0) → (((b_iand (w32 (b_lshr j1 x3)) 255) = 10 → ((1000 ≤ (V 369 2) → Wf K d mX12_lay 3 [some (vR 369), some (vJ j1), none, some (vI (w32 (x3 + (-8)))), none] [] V Q) ∧ (¬ (1000 ≤ (V 369 2)) → (((0 : Int) ≤ (V 369 2) ∧ (V 369 2) < (1000 : Nat)) ∧ Wf K d mX12_lay 3 [some (vR 369), some (vJ j1), none, some (vI (w32 (x3 + (-8)))), none] [] (upm (upm V 370 (Int.toNat (V 369 2)) (b_iand (w32 (b_lshr j1 x3)) 255)) 369 2 (w32 (((upm V 370 (Int.toNat (V 369 2)) (b_iand (w32 (b_lshr j1 x3)) 255)) 369 2) + 1))) Q)))) ∧ (¬ ((b_iand (w32 (b_lshr j1 x3)) 255) = 10) → (((b_iand (w32 (b_lshr j1 x3)) 255) < 32 → Wf K d mX12_lay 3 [some (vR 369), some (vJ j1), none, some (vI (w32 (x3 + (-8)))), none] [] V Q) ∧ (¬ ((b_iand (w32 (b_lshr j1 x3)) 255) < 32) → ((126 < (b_iand (w32 (b_lshr j1 x3)) 255) → Wf K d mX12_lay 3 [some (vR 369), some (vJ j1), none, some (vI (w32 (x3 + (-8)))), none] [] V Q) ∧ (¬ (126 < (b_iand (w32 (b_lshr j1 x3)) 255)) → ((1000 ≤ (V 369 2) → Wf K d mX12_lay 3 [some (vR 369), some (vJ j1), none, some (vI (w32 (x3 + (-8)))), none] [] V Q) ∧ (¬ (1000 ≤ (V 369 2)) → (((0 : Int) ≤ (V 369 2) ∧ (V 369 2) < (1000 : Nat)) ∧ Wf K d mX12_lay 3 [some (vR 369), some (vJ j1), none, some (vI (w32 (x3 + (-8)))), none] [] (upm (upm V 370 (Int.toNat (V 369 2)) (b_iand (w32 (b_lshr j1 x3)) 255)) 369 2 (w32 (((upm V 370 (Int.toNat (V 369 2)) (b_iand (w32 (b_lshr j1 x3)) 255)) 369 2) + 1))) Q)))))))))))) : Wf K d mX12_lay 3 [some (vR 369), some (vJ j1), none, some (vI x3), none] [] V Q := by
  refine wp_iload_n dX12_lay_3 rfl rfl ?_
  refine wp_if_lt (tgt := 75) dX12_lay_4 rfl (fun c1 => ?_) (fun c1 => ?_)
  ·
    exact wp_return dX12_lay_75 rfl ⟨rfl, rfl⟩ ⟨rfl, (h.1 c1)⟩
  ·
    refine wp_lload_n dX12_lay_7 rfl rfl ?_
    refine wp_iload_n dX12_lay_8 rfl rfl ?_
    refine wp_lshr dX12_lay_9 ?_
    refine wp_l2i dX12_lay_10 ?_
    refine wp_sipush dX12_lay_11 (by decide) ?_
    refine wp_iand dX12_lay_14 ?_
    refine wp_istore dX12_lay_15 (by decide) rfl ?_
    refine wp_iload dX12_lay_17 rfl ?_
    refine wp_bipush dX12_lay_19 (by decide) ?_
    refine wp_icmp_eq (tgt := 38) dX12_lay_21 rfl (fun c2 => ?_) (fun c2 => ?_)
    ·
      refine wp_aload_n dX12_lay_38 rfl rfl ?_
      refine wp_getI dX12_lay_39 fX12_11 rfl sh369 (by decide) ?_
      refine wp_sipush dX12_lay_42 (by decide) ?_
      refine wp_icmp_ge (tgt := 69) dX12_lay_45 rfl (fun c3 => ?_) (fun c3 => ?_)
      ·
        refine wp_iinc dX12_lay_69 rfl rfl ?_
        refine wp_goto (tgt := 3) dX12_lay_72 rfl ?_
        exact wp_loc (L2 := [some (vR 369), some (vJ j1), none, some (vI (w32 (x3 + (-8)))), none]) ⟨rfl, ⟨rfl, ⟨rfl, trivial⟩⟩⟩ (((h.2 c1).1 c2).1 c3)
      ·
        refine wp_aload_n dX12_lay_48 rfl rfl ?_
        refine wp_getR (b := 370) dX12_lay_49 fX12_14 rfl sh369 (by decide) rfl ?_
        refine wp_aload_n dX12_lay_52 rfl rfl ?_
        refine wp_getI dX12_lay_53 fX12_11 rfl sh369 (by decide) ?_
        refine wp_iload dX12_lay_56 rfl ?_
        refine wp_iast dX12_lay_58 sh370 (((h.2 c1).1 c2).2 c3).1 ?_
        refine wp_aload_n dX12_lay_59 rfl rfl ?_
        refine wp_dup dX12_lay_60 rfl ?_
        refine wp_getI dX12_lay_61 fX12_11 rfl sh369 (by decide) ?_
        refine wp_iconst dX12_lay_64 (by decide) ?_
        refine wp_iadd dX12_lay_65 ?_
        refine wp_putI dX12_lay_66 fwX12_11 rfl sh369 (by decide) ?_
        refine wp_iinc dX12_lay_69 rfl rfl ?_
        refine wp_goto (tgt := 3) dX12_lay_72 rfl ?_
        exact wp_loc (L2 := [some (vR 369), some (vJ j1), none, some (vI (w32 (x3 + (-8)))), none]) ⟨rfl, ⟨rfl, ⟨rfl, trivial⟩⟩⟩ (((h.2 c1).1 c2).2 c3).2
    ·
      refine wp_iload dX12_lay_24 rfl ?_
      refine wp_bipush dX12_lay_26 (by decide) ?_
      refine wp_icmp_lt (tgt := 69) dX12_lay_28 rfl (fun c4 => ?_) (fun c4 => ?_)
      ·
        refine wp_iinc dX12_lay_69 rfl rfl ?_
        refine wp_goto (tgt := 3) dX12_lay_72 rfl ?_
        exact wp_loc (L2 := [some (vR 369), some (vJ j1), none, some (vI (w32 (x3 + (-8)))), none]) ⟨rfl, ⟨rfl, ⟨rfl, trivial⟩⟩⟩ (((h.2 c1).2 c2).1 c4)
      ·
        refine wp_iload dX12_lay_31 rfl ?_
        refine wp_bipush dX12_lay_33 (by decide) ?_
        refine wp_icmp_gt (tgt := 69) dX12_lay_35 rfl (fun c5 => ?_) (fun c5 => ?_)
        ·
          refine wp_iinc dX12_lay_69 rfl rfl ?_
          refine wp_goto (tgt := 3) dX12_lay_72 rfl ?_
          exact wp_loc (L2 := [some (vR 369), some (vJ j1), none, some (vI (w32 (x3 + (-8)))), none]) ⟨rfl, ⟨rfl, ⟨rfl, trivial⟩⟩⟩ ((((h.2 c1).2 c2).2 c4).1 c5)
        ·
          refine wp_aload_n dX12_lay_38 rfl rfl ?_
          refine wp_getI dX12_lay_39 fX12_11 rfl sh369 (by decide) ?_
          refine wp_sipush dX12_lay_42 (by decide) ?_
          refine wp_icmp_ge (tgt := 69) dX12_lay_45 rfl (fun c6 => ?_) (fun c6 => ?_)
          ·
            refine wp_iinc dX12_lay_69 rfl rfl ?_
            refine wp_goto (tgt := 3) dX12_lay_72 rfl ?_
            exact wp_loc (L2 := [some (vR 369), some (vJ j1), none, some (vI (w32 (x3 + (-8)))), none]) ⟨rfl, ⟨rfl, ⟨rfl, trivial⟩⟩⟩ (((((h.2 c1).2 c2).2 c4).2 c5).1 c6)
          ·
            refine wp_aload_n dX12_lay_48 rfl rfl ?_
            refine wp_getR (b := 370) dX12_lay_49 fX12_14 rfl sh369 (by decide) rfl ?_
            refine wp_aload_n dX12_lay_52 rfl rfl ?_
            refine wp_getI dX12_lay_53 fX12_11 rfl sh369 (by decide) ?_
            refine wp_iload dX12_lay_56 rfl ?_
            refine wp_iast dX12_lay_58 sh370 (((((h.2 c1).2 c2).2 c4).2 c5).2 c6).1 ?_
            refine wp_aload_n dX12_lay_59 rfl rfl ?_
            refine wp_dup dX12_lay_60 rfl ?_
            refine wp_getI dX12_lay_61 fX12_11 rfl sh369 (by decide) ?_
            refine wp_iconst dX12_lay_64 (by decide) ?_
            refine wp_iadd dX12_lay_65 ?_
            refine wp_putI dX12_lay_66 fwX12_11 rfl sh369 (by decide) ?_
            refine wp_iinc dX12_lay_69 rfl rfl ?_
            refine wp_goto (tgt := 3) dX12_lay_72 rfl ?_
            exact wp_loc (L2 := [some (vR 369), some (vJ j1), none, some (vI (w32 (x3 + (-8)))), none]) ⟨rfl, ⟨rfl, ⟨rfl, trivial⟩⟩⟩ (((((h.2 c1).2 c2).2 c4).2 c5).2 c6).2
set_option maxHeartbeats 4000000 in
set_option maxRecDepth 10000 in
theorem sX12_isLetter {K : KK} {d : Nat} {V : Mem} {Q : Option AV → Mem → Prop} (x0 : Int) (h : ((x0 < 97 → Q (some (vI 0)) V) ∧ (¬ (x0 < 97) → ((122 < x0 → Q (some (vI 0)) V) ∧ (¬ (122 < x0) → Q (some (vI 1)) V))))) : Mf K d mX12_isLetter [vI x0] V Q := by
  refine Mt.of2 (L := [some (vI x0)]) pnX12 rfl rfl ?_
  refine wp_iload_n dX12_isLetter_0 rfl rfl ?_
  refine wp_bipush dX12_isLetter_1 (by decide) ?_
  refine wp_icmp_lt (tgt := 16) dX12_isLetter_3 rfl (fun c1 => ?_) (fun c1 => ?_)
  ·
    refine wp_iconst dX12_isLetter_16 (by decide) ?_
    exact wp_zreturn dX12_isLetter_17 rfl ⟨rfl, rfl⟩ (by decide) ⟨rfl, (h.1 c1)⟩
  ·
    refine wp_iload_n dX12_isLetter_6 rfl rfl ?_
    refine wp_bipush dX12_isLetter_7 (by decide) ?_
    refine wp_icmp_gt (tgt := 16) dX12_isLetter_9 rfl (fun c2 => ?_) (fun c2 => ?_)
    ·
      refine wp_iconst dX12_isLetter_16 (by decide) ?_
      exact wp_zreturn dX12_isLetter_17 rfl ⟨rfl, rfl⟩ (by decide) ⟨rfl, ((h.2 c1).1 c2)⟩
    ·
      refine wp_iconst dX12_isLetter_12 (by decide) ?_
      refine wp_goto (tgt := 17) dX12_isLetter_13 rfl ?_
      exact wp_zreturn dX12_isLetter_17 rfl ⟨rfl, rfl⟩ (by decide) ⟨rfl, ((h.2 c1).2 c2)⟩
set_option maxHeartbeats 4000000 in
set_option maxRecDepth 10000 in
theorem sX12_isDigit {K : KK} {d : Nat} {V : Mem} {Q : Option AV → Mem → Prop} (x0 : Int) (h : ((x0 < 48 → Q (some (vI 0)) V) ∧ (¬ (x0 < 48) → ((57 < x0 → Q (some (vI 0)) V) ∧ (¬ (57 < x0) → Q (some (vI 1)) V))))) : Mf K d mX12_isDigit [vI x0] V Q := by
  refine Mt.of2 (L := [some (vI x0)]) pnX12 rfl rfl ?_
  refine wp_iload_n dX12_isDigit_0 rfl rfl ?_
  refine wp_bipush dX12_isDigit_1 (by decide) ?_
  refine wp_icmp_lt (tgt := 16) dX12_isDigit_3 rfl (fun c1 => ?_) (fun c1 => ?_)
  ·
    refine wp_iconst dX12_isDigit_16 (by decide) ?_
    exact wp_zreturn dX12_isDigit_17 rfl ⟨rfl, rfl⟩ (by decide) ⟨rfl, (h.1 c1)⟩
  ·
    refine wp_iload_n dX12_isDigit_6 rfl rfl ?_
    refine wp_bipush dX12_isDigit_7 (by decide) ?_
    refine wp_icmp_gt (tgt := 16) dX12_isDigit_9 rfl (fun c2 => ?_) (fun c2 => ?_)
    ·
      refine wp_iconst dX12_isDigit_16 (by decide) ?_
      exact wp_zreturn dX12_isDigit_17 rfl ⟨rfl, rfl⟩ (by decide) ⟨rfl, ((h.2 c1).1 c2)⟩
    ·
      refine wp_iconst dX12_isDigit_12 (by decide) ?_
      refine wp_goto (tgt := 17) dX12_isDigit_13 rfl ?_
      exact wp_zreturn dX12_isDigit_17 rfl ⟨rfl, rfl⟩ (by decide) ⟨rfl, ((h.2 c1).2 c2)⟩
set_option maxHeartbeats 4000000 in
set_option maxRecDepth 10000 in
theorem sX12_rank {K : KK} {d : Nat} {V : Mem} {Q : Option AV → Mem → Prop} (x0 : Int) (h : Mf K d mX12_isLetter [vI x0] V (fun r V1 => ∃ z1, r = some (vI z1) ∧ ((z1 = 0 → Q (some (vI (w32 (x0 - 21)))) V1) ∧ (¬ (z1 = 0) → Q (some (vI (w32 (x0 - 96)))) V1)))) : Mf K (d + 1) mX12_rank [vI x0] V Q := by
  refine Mt.of2 (L := [some (vI x0)]) pnX12 rfl rfl ?_
  refine wp_iload_n dX12_rank_0 rfl rfl ?_
  refine wp_callS (S := []) (as := [vI x0]) dX12_rank_1 lX12_161 (h) (by omega) rfl rfl (Nat.le_of_ble_eq_true rfl) ⟨Nat.le_refl _, Nat.le_refl _⟩ ?_
  rintro _ _ V1 ⟨rfl, z1, rfl, q1⟩
  show Wp _ _ _ _ _ 4 _ [vI z1] _ _ _ _ _
  refine wp_if_eq (tgt := 14) dX12_rank_4 rfl (fun c2 => ?_) (fun c2 => ?_)
  ·
    refine wp_iload_n dX12_rank_14 rfl rfl ?_
    refine wp_bipush dX12_rank_15 (by decide) ?_
    refine wp_isub dX12_rank_17 ?_
    exact wp_ireturn dX12_rank_18 rfl ⟨rfl, rfl⟩ ⟨rfl, (q1.1 c2)⟩
  ·
    refine wp_iload_n dX12_rank_7 rfl rfl ?_
    refine wp_bipush dX12_rank_8 (by decide) ?_
    refine wp_isub dX12_rank_10 ?_
    refine wp_goto (tgt := 18) dX12_rank_11 rfl ?_
    exact wp_ireturn dX12_rank_18 rfl ⟨rfl, rfl⟩ ⟨rfl, (q1.2 c2)⟩
set_option maxHeartbeats 4000000 in
set_option maxRecDepth 10000 in
theorem sX12_isSignOf {K : KK} {d : Nat} {V : Mem} {Q : Option AV → Mem → Prop} (x0 : Int) (h : ((x0 = 40 → Q (some (vI 1)) V) ∧ (¬ (x0 = 40) → ((x0 = 41 → Q (some (vI 1)) V) ∧ (¬ (x0 = 41) → ((x0 = 59 → Q (some (vI 1)) V) ∧ (¬ (x0 = 59) → ((x0 = 61 → Q (some (vI 1)) V) ∧ (¬ (x0 = 61) → ((x0 = 60 → Q (some (vI 1)) V) ∧ (¬ (x0 = 60) → ((x0 = 43 → Q (some (vI 1)) V) ∧ (¬ (x0 = 43) → ((x0 = 45 → Q (some (vI 1)) V) ∧ (¬ (x0 = 45) → ((¬ x0 = 42 → Q (some (vI 0)) V) ∧ (x0 = 42 → Q (some (vI 1)) V))))))))))))))))) : Mf K d mX12_isSignOf [vI x0] V Q := by
  refine Mt.of2 (L := [some (vI x0)]) pnX12 rfl rfl ?_
  refine wp_iload_n dX12_isSignOf_0 rfl rfl ?_
  refine wp_bipush dX12_isSignOf_1 (by decide) ?_
  refine wp_icmp_eq (tgt := 48) dX12_isSignOf_3 rfl (fun c1 => ?_) (fun c1 => ?_)
  ·
    refine wp_iconst dX12_isSignOf_48 (by decide) ?_
    refine wp_goto (tgt := 53) dX12_isSignOf_49 rfl ?_
    exact wp_zreturn dX12_isSignOf_53 rfl ⟨rfl, rfl⟩ (by decide) ⟨rfl, (h.1 c1)⟩
  ·
    refine wp_iload_n dX12_isSignOf_6 rfl rfl ?_
    refine wp_bipush dX12_isSignOf_7 (by decide) ?_
    refine wp_icmp_eq (tgt := 48) dX12_isSignOf_9 rfl (fun c2 => ?_) (fun c2 => ?_)
    ·
      refine wp_iconst dX12_isSignOf_48 (by decide) ?_
      refine wp_goto (tgt := 53) dX12_isSignOf_49 rfl ?_
      exact wp_zreturn dX12_isSignOf_53 rfl ⟨rfl, rfl⟩ (by decide) ⟨rfl, ((h.2 c1).1 c2)⟩
    ·
      refine wp_iload_n dX12_isSignOf_12 rfl rfl ?_
      refine wp_bipush dX12_isSignOf_13 (by decide) ?_
      refine wp_icmp_eq (tgt := 48) dX12_isSignOf_15 rfl (fun c3 => ?_) (fun c3 => ?_)
      ·
        refine wp_iconst dX12_isSignOf_48 (by decide) ?_
        refine wp_goto (tgt := 53) dX12_isSignOf_49 rfl ?_
        exact wp_zreturn dX12_isSignOf_53 rfl ⟨rfl, rfl⟩ (by decide) ⟨rfl, (((h.2 c1).2 c2).1 c3)⟩
      ·
        refine wp_iload_n dX12_isSignOf_18 rfl rfl ?_
        refine wp_bipush dX12_isSignOf_19 (by decide) ?_
        refine wp_icmp_eq (tgt := 48) dX12_isSignOf_21 rfl (fun c4 => ?_) (fun c4 => ?_)
        ·
          refine wp_iconst dX12_isSignOf_48 (by decide) ?_
          refine wp_goto (tgt := 53) dX12_isSignOf_49 rfl ?_
          exact wp_zreturn dX12_isSignOf_53 rfl ⟨rfl, rfl⟩ (by decide) ⟨rfl, ((((h.2 c1).2 c2).2 c3).1 c4)⟩
        ·
          refine wp_iload_n dX12_isSignOf_24 rfl rfl ?_
          refine wp_bipush dX12_isSignOf_25 (by decide) ?_
          refine wp_icmp_eq (tgt := 48) dX12_isSignOf_27 rfl (fun c5 => ?_) (fun c5 => ?_)
          ·
            refine wp_iconst dX12_isSignOf_48 (by decide) ?_
            refine wp_goto (tgt := 53) dX12_isSignOf_49 rfl ?_
            exact wp_zreturn dX12_isSignOf_53 rfl ⟨rfl, rfl⟩ (by decide) ⟨rfl, (((((h.2 c1).2 c2).2 c3).2 c4).1 c5)⟩
          ·
            refine wp_iload_n dX12_isSignOf_30 rfl rfl ?_
            refine wp_bipush dX12_isSignOf_31 (by decide) ?_
            refine wp_icmp_eq (tgt := 48) dX12_isSignOf_33 rfl (fun c6 => ?_) (fun c6 => ?_)
            ·
              refine wp_iconst dX12_isSignOf_48 (by decide) ?_
              refine wp_goto (tgt := 53) dX12_isSignOf_49 rfl ?_
              exact wp_zreturn dX12_isSignOf_53 rfl ⟨rfl, rfl⟩ (by decide) ⟨rfl, ((((((h.2 c1).2 c2).2 c3).2 c4).2 c5).1 c6)⟩
            ·
              refine wp_iload_n dX12_isSignOf_36 rfl rfl ?_
              refine wp_bipush dX12_isSignOf_37 (by decide) ?_
              refine wp_icmp_eq (tgt := 48) dX12_isSignOf_39 rfl (fun c7 => ?_) (fun c7 => ?_)
              ·
                refine wp_iconst dX12_isSignOf_48 (by decide) ?_
                refine wp_goto (tgt := 53) dX12_isSignOf_49 rfl ?_
                exact wp_zreturn dX12_isSignOf_53 rfl ⟨rfl, rfl⟩ (by decide) ⟨rfl, (((((((h.2 c1).2 c2).2 c3).2 c4).2 c5).2 c6).1 c7)⟩
              ·
                refine wp_iload_n dX12_isSignOf_42 rfl rfl ?_
                refine wp_bipush dX12_isSignOf_43 (by decide) ?_
                refine wp_icmp_ne (tgt := 52) dX12_isSignOf_45 rfl (fun c8 => ?_) (fun c8 => ?_)
                ·
                  refine wp_iconst dX12_isSignOf_52 (by decide) ?_
                  exact wp_zreturn dX12_isSignOf_53 rfl ⟨rfl, rfl⟩ (by decide) ⟨rfl, ((((((((h.2 c1).2 c2).2 c3).2 c4).2 c5).2 c6).2 c7).1 c8)⟩
                ·
                  refine wp_iconst dX12_isSignOf_48 (by decide) ?_
                  refine wp_goto (tgt := 53) dX12_isSignOf_49 rfl ?_
                  exact wp_zreturn dX12_isSignOf_53 rfl ⟨rfl, rfl⟩ (by decide) ⟨rfl, ((((((((h.2 c1).2 c2).2 c3).2 c4).2 c5).2 c6).2 c7).2 c8)⟩
set_option maxHeartbeats 4000000 in
set_option maxRecDepth 10000 in
theorem sX12_cutAll {K : KK} {d : Nat} {V : Mem} {Q : Option AV → Mem → Prop}  (h : Wf K (d + 1) mX12_cutAll 17 [some (vR 369), some (vI 0), some (vI 0), none, none, none, none] [] (upm (upm V 369 3 (V 369 2)) 369 2 0) Q) : Mf K (d + 1) mX12_cutAll [vR 369] V Q := by
  refine Mt.of2 (L := [some (vR 369), none, none, none, none, none, none]) pnX12 rfl rfl ?_
  refine wp_aload_n dX12_cutAll_0 rfl rfl ?_
  refine wp_aload_n dX12_cutAll_1 rfl rfl ?_
  refine wp_getI dX12_cutAll_2 fX12_11 rfl sh369 (by decide) ?_
  refine wp_putI dX12_cutAll_5 fwX12_165 rfl sh369 (by decide) ?_
  refine wp_aload_n dX12_cutAll_8 rfl rfl ?_
  refine wp_iconst dX12_cutAll_9 (by decide) ?_
  refine wp_putI dX12_cutAll_10 fwX12_11 rfl sh369 (by decide) ?_
  refine wp_iconst dX12_cutAll_13 (by decide) ?_
  refine wp_istore_n dX12_cutAll_14 rfl (by decide) rfl ?_
  refine wp_iconst dX12_cutAll_15 (by decide) ?_
  refine wp_istore_n dX12_cutAll_16 rfl (by decide) rfl ?_
  exact h
set_option maxHeartbeats 4000000 in
set_option maxRecDepth 10000 in
theorem sX12_cutAll_17 {K : KK} {d : Nat} {V : Mem} {Q : Option AV → Mem → Prop} (x1 : Int) (x2 : Int) (h : (((V 369 3) ≤ x2 → (((0 : Int) ≤ x1 ∧ x1 < (1002 : Nat)) ∧ (((0 : Int) ≤ x1 ∧ x1 < (1002 : Nat)) ∧ Q none (upm (upm (upm (upm V 371 (Int.toNat x1) 0) 372 (Int.toNat x1) ((upm V 371 (Int.toNat x1) 0) 369 3)) 369 7 0) 369 8 0)))) ∧ (¬ ((V 369 3) ≤ x2) → (((0 : Int) ≤ x2 ∧ x2 < (1000 : Nat)) ∧ (((V 370 (Int.toNat x2)) = 10 → Wf K (d + 1) mX12_cutAll 44 [some (vR 369), some (vI x1), some (vI x2), none, none, none, none] [] V Q) ∧ (¬ ((V 370 (Int.toNat x2)) = 10) → ((¬ (V 370 (Int.toNat x2)) = 32 → (((0 : Int) ≤ x1 ∧ x1 < (1002 : Nat)) ∧ Mf K d mX12_isLetter [vI (V 370 (Int.toNat x2))] (upm V 372 (Int.toNat x1) x2) (fun r V4 => ∃ z4, r = some (vI z4) ∧ ((z4 = 0 → Mf K d mX12_isDigit [vI (V 370 (Int.toNat x2))] V4 (fun r V6 => ∃ z6, r = some (vI z6) ∧ ((z6 = 0 → Mf K d mX12_isSignOf [vI (V 370 (Int.toNat x2))] V6 (fun r V8 => ∃ z8, r = some (vI z8) ∧ ((z8 = 0 → Wf K (d + 1) mX12_cutAll 261 [some (vR 369), some (vI x1), some (vI x2), none, none, some (vJ (V 370 (Int.toNat x2))), none] [vI 4, vI x1, vR 371] V8 Q) ∧ (¬ (z8 = 0) → Wf K (d + 1) mX12_cutAll 261 [some (vR 369), some (vI x1), some (vI x2), none, none, some (vJ (V 370 (Int.toNat x2))), none] [vI 3, vI x1, vR 371] V8 Q)))) ∧ (¬ (z6 = 0) → Wf K (d + 1) mX12_cutAll 159 [some (vR 369), some (vI x1), some (vI x2), none, some (vI x2), some (vJ 0), none] [] V6 Q)))) ∧ (¬ (z4 = 0) → Wf K (d + 1) mX12_cutAll 70 [some (vR 369), some (vI x1), some (vI x2), none, some (vI x2), some (vJ 0), none] [] V4 Q))))) ∧ ((V 370 (Int.toNat x2)) = 32 → Wf K (d + 1) mX12_cutAll 44 [some (vR 369), some (vI x1), some (vI x2), none, none, none, none] [] V Q)))))))) : Wf K (d + 1) mX12_cutAll 17 [some (vR 369), some (vI x1), some (vI x2), none, none, none, none] [] V Q := by
  refine wp_iload_n dX12_cutAll_17 rfl rfl ?_
  refine wp_aload_n dX12_cutAll_18 rfl rfl ?_
  refine wp_getI dX12_cutAll_19 fX12_165 rfl sh369 (by decide) ?_
  refine wp_icmp_ge (tgt := 279) dX12_cutAll_22 rfl (fun c1 => ?_) (fun c1 => ?_)
  ·
    refine wp_aload_n dX12_cutAll_279 rfl rfl ?_
    refine wp_getR (b := 371) dX12_cutAll_280 fX12_24 rfl sh369 (by decide) rfl ?_
    refine wp_iload_n dX12_cutAll_283 rfl rfl ?_
    refine wp_iconst dX12_cutAll_284 (by decide) ?_
    refine wp_iast dX12_cutAll_285 sh371 (h.1 c1).1 ?_
    refine wp_aload_n dX12_cutAll_286 rfl rfl ?_
    refine wp_getR (b := 372) dX12_cutAll_287 fX12_27 rfl sh369 (by decide) rfl ?_
    refine wp_iload_n dX12_cutAll_290 rfl rfl ?_
    refine wp_aload_n dX12_cutAll_291 rfl rfl ?_
    refine wp_getI dX12_cutAll_292 fX12_165 rfl sh369 (by decide) ?_
    refine wp_iast dX12_cutAll_295 sh372 (h.1 c1).2.1 ?_
    refine wp_aload_n dX12_cutAll_296 rfl rfl ?_
    refine wp_iconst dX12_cutAll_297 (by decide) ?_
    refine wp_putI dX12_cutAll_298 fwX12_184 rfl sh369 (by decide) ?_
    refine wp_aload_n dX12_cutAll_301 rfl rfl ?_
    refine wp_iconst dX12_cutAll_302 (by decide) ?_
    refine wp_putI dX12_cutAll_303 fwX12_187 rfl sh369 (by decide) ?_
    exact wp_return dX12_cutAll_306 rfl ⟨rfl, rfl⟩ ⟨rfl, (h.1 c1).2.2⟩
  ·
    refine wp_aload_n dX12_cutAll_25 rfl rfl ?_
    refine wp_getR (b := 370) dX12_cutAll_26 fX12_14 rfl sh369 (by decide) rfl ?_
    refine wp_iload_n dX12_cutAll_29 rfl rfl ?_
    refine wp_iald dX12_cutAll_30 sh370 (h.2 c1).1 ?_
    refine wp_istore_n dX12_cutAll_31 rfl (by decide) rfl ?_
    refine wp_iload_n dX12_cutAll_32 rfl rfl ?_
    refine wp_bipush dX12_cutAll_33 (by decide) ?_
    refine wp_icmp_eq (tgt := 44) dX12_cutAll_35 rfl (fun c2 => ?_) (fun c2 => ?_)
    ·
      exact wp_loc (L2 := [some (vR 369), some (vI x1), some (vI x2), none, none, none, none]) ⟨rfl, ⟨rfl, ⟨rfl, trivial⟩⟩⟩ ((h.2 c1).2.1 c2)
    ·
      refine wp_iload_n dX12_cutAll_38 rfl rfl ?_
      refine wp_bipush dX12_cutAll_39 (by decide) ?_
      refine wp_icmp_ne (tgt := 50) dX12_cutAll_41 rfl (fun c3 => ?_) (fun c3 => ?_)
      ·
        refine wp_iload_n dX12_cutAll_50 rfl rfl ?_
        refine wp_istore dX12_cutAll_51 (by decide) rfl ?_
        refine wp_lconst dX12_cutAll_53 rfl ?_
        refine wp_lstore dX12_cutAll_54 (by decide) rfl ?_
        refine wp_aload_n dX12_cutAll_56 rfl rfl ?_
        refine wp_getR (b := 372) dX12_cutAll_57 fX12_27 rfl sh369 (by decide) rfl ?_
        refine wp_iload_n dX12_cutAll_60 rfl rfl ?_
        refine wp_iload_n dX12_cutAll_61 rfl rfl ?_
        refine wp_iast dX12_cutAll_62 sh372 (((h.2 c1).2.2 c2).1 c3).1 ?_
        refine wp_iload_n dX12_cutAll_63 rfl rfl ?_
        refine wp_callS (S := []) (as := [vI (V 370 (Int.toNat x2))]) dX12_cutAll_64 lX12_161 ((((h.2 c1).2.2 c2).1 c3).2) (by omega) rfl rfl (Nat.le_of_ble_eq_true rfl) ⟨Nat.le_refl _, Nat.le_refl _⟩ ?_
        rintro _ _ V4 ⟨rfl, z4, rfl, q4⟩
        show Wp _ _ _ _ _ 67 _ [vI z4] _ _ _ _ _
        refine wp_if_eq (tgt := 152) dX12_cutAll_67 rfl (fun c5 => ?_) (fun c5 => ?_)
        ·
          refine wp_iload_n dX12_cutAll_152 rfl rfl ?_
          refine wp_callS (S := []) (as := [vI (V 370 (Int.toNat x2))]) dX12_cutAll_153 lX12_174 ((q4.1 c5)) (by omega) rfl rfl (Nat.le_of_ble_eq_true rfl) ⟨Nat.le_refl _, Nat.le_refl _⟩ ?_
          rintro _ _ V6 ⟨rfl, z6, rfl, q6⟩
          show Wp _ _ _ _ _ 156 _ [vI z6] _ _ _ _ _
          refine wp_if_eq (tgt := 240) dX12_cutAll_156 rfl (fun c7 => ?_) (fun c7 => ?_)
          ·
            refine wp_iload_n dX12_cutAll_240 rfl rfl ?_
            refine wp_i2l dX12_cutAll_241 ?_
            refine wp_lstore dX12_cutAll_242 (by decide) rfl ?_
            refine wp_aload_n dX12_cutAll_244 rfl rfl ?_
            refine wp_getR (b := 371) dX12_cutAll_245 fX12_24 rfl sh369 (by decide) rfl ?_
            refine wp_iload_n dX12_cutAll_248 rfl rfl ?_
            refine wp_iload_n dX12_cutAll_249 rfl rfl ?_
            refine wp_callS (S := [vI x1, vR 371]) (as := [vI (V 370 (Int.toNat x2))]) dX12_cutAll_250 lX12_181 ((q6.1 c7)) (by omega) rfl rfl (Nat.le_of_ble_eq_true rfl) ⟨Nat.le_refl _, Nat.le_refl _⟩ ?_
            rintro _ _ V8 ⟨rfl, z8, rfl, q8⟩
            show Wp _ _ _ _ _ 253 _ [vI z8, vI x1, vR 371] _ _ _ _ _
            refine wp_if_eq (tgt := 260) dX12_cutAll_253 rfl (fun c9 => ?_) (fun c9 => ?_)
            ·
              refine wp_iconst dX12_cutAll_260 (by decide) ?_
              exact wp_loc (L2 := [some (vR 369), some (vI x1), some (vI x2), none, none, some (vJ (V 370 (Int.toNat x2))), none]) ⟨rfl, ⟨rfl, ⟨rfl, ⟨rfl, trivial⟩⟩⟩⟩ (q8.1 c9)
            ·
              refine wp_iconst dX12_cutAll_256 (by decide) ?_
              refine wp_goto (tgt := 261) dX12_cutAll_257 rfl ?_
              exact wp_loc (L2 := [some (vR 369), some (vI x1), some (vI x2), none, none, some (vJ (V 370 (Int.toNat x2))), none]) ⟨rfl, ⟨rfl, ⟨rfl, ⟨rfl, trivial⟩⟩⟩⟩ (q8.2 c9)
          ·
            exact wp_loc (L2 := [some (vR 369), some (vI x1), some (vI x2), none, some (vI x2), some (vJ 0), none]) ⟨rfl, ⟨rfl, ⟨rfl, ⟨rfl, ⟨rfl, trivial⟩⟩⟩⟩⟩ (q6.2 c7)
        ·
          exact wp_loc (L2 := [some (vR 369), some (vI x1), some (vI x2), none, some (vI x2), some (vJ 0), none]) ⟨rfl, ⟨rfl, ⟨rfl, ⟨rfl, ⟨rfl, trivial⟩⟩⟩⟩⟩ (q4.2 c5)
      ·
        exact wp_loc (L2 := [some (vR 369), some (vI x1), some (vI x2), none, none, none, none]) ⟨rfl, ⟨rfl, ⟨rfl, trivial⟩⟩⟩ (((h.2 c1).2.2 c2).2 c3)
set_option maxHeartbeats 4000000 in
set_option maxRecDepth 10000 in
theorem sX12_cutAll_44 {K : KK} {d : Nat} {V : Mem} {Q : Option AV → Mem → Prop} (x1 : Int) (x2 : Int) (h : Wf K (d + 1) mX12_cutAll 17 [some (vR 369), some (vI x1), some (vI (w32 (x2 + 1))), none, none, none, none] [] V Q) : Wf K (d + 1) mX12_cutAll 44 [some (vR 369), some (vI x1), some (vI x2), none, none, none, none] [] V Q := by
  refine wp_iinc dX12_cutAll_44 rfl rfl ?_
  refine wp_goto (tgt := 17) dX12_cutAll_47 rfl ?_
  exact h
set_option maxHeartbeats 4000000 in
set_option maxRecDepth 10000 in
theorem sX12_cutAll_261 {K : KK} {d : Nat} {V : Mem} {Q : Option AV → Mem → Prop} (x1 : Int) (x2 : Int) (j5 : Int) (s1 : Int) (s2 : Int) (h : (((0 : Int) ≤ s1 ∧ s1 < (1002 : Nat)) ∧ Wf K (d + 1) mX12_cutAll 265 [some (vR 369), some (vI x1), some (vI (w32 (x2 + 1))), none, none, some (vJ j5), none] [] (upm V 371 (Int.toNat s1) s2) Q)) : Wf K (d + 1) mX12_cutAll 261 [some (vR 369), some (vI x1), some (vI x2), none, none, some (vJ j5), none] [vI s2, vI s1, vR 371] V Q := by
  refine wp_iast dX12_cutAll_261 sh371 h.1 ?_
  refine wp_iinc dX12_cutAll_262 rfl rfl ?_
  exact h.2
set_option maxHeartbeats 4000000 in
set_option maxRecDepth 10000 in
theorem sX12_cutAll_159 {K : KK} {d : Nat} {V : Mem} {Q : Option AV → Mem → Prop} (x1 : Int) (x2 : Int) (x4 : Int) (j5 : Int) (h : (((V 369 3) ≤ x2 → Wf K (d + 1) mX12_cutAll 218 [some (vR 369), some (vI x1), some (vI x2), none, some (vI x4), some (vJ j5), none] [] V Q) ∧ (¬ ((V 369 3) ≤ x2) → (((0 : Int) ≤ x2 ∧ x2 < (1000 : Nat)) ∧ Mf K d mX12_isDigit [vI (V 370 (Int.toNat x2))] V (fun r V2 => ∃ z2, r = some (vI z2) ∧ ((z2 = 0 → Wf K (d + 1) mX12_cutAll 218 [some (vR 369), some (vI x1), some (vI x2), none, some (vI x4), some (vJ j5), none] [] V2 Q) ∧ (¬ (z2 = 0) → ((4 ≤ (w32 (x2 - x4)) → Wf K (d + 1) mX12_cutAll 210 [some (vR 369), some (vI x1), some (vI x2), none, some (vI x4), none, none] [vJ j5] V2 Q) ∧ (¬ (4 ≤ (w32 (x2 - x4))) → (((0 : Int) ≤ x2 ∧ x2 < (1000 : Nat)) ∧ Wf K (d + 1) mX12_cutAll 210 [some (vR 369), some (vI x1), some (vI x2), none, some (vI x4), none, none] [vJ (w64 ((w64 ((w64 (10 * j5)) + (V2 370 (Int.toNat x2)))) - 48))] V2 Q)))))))))) : Wf K (d + 1) mX12_cutAll 159 [some (vR 369), some (vI x1), some (vI x2), none, some (vI x4), some (vJ j5), none] [] V Q := by
  refine wp_iload_n dX12_cutAll_159 rfl rfl ?_
  refine wp_aload_n dX12_cutAll_160 rfl rfl ?_
  refine wp_getI dX12_cutAll_161 fX12_165 rfl sh369 (by decide) ?_
  refine wp_icmp_ge (tgt := 218) dX12_cutAll_164 rfl (fun c1 => ?_) (fun c1 => ?_)
  ·
    exact (h.1 c1)
  ·
    refine wp_aload_n dX12_cutAll_167 rfl rfl ?_
    refine wp_getR (b := 370) dX12_cutAll_168 fX12_14 rfl sh369 (by decide) rfl ?_
    refine wp_iload_n dX12_cutAll_171 rfl rfl ?_
    refine wp_iald dX12_cutAll_172 sh370 (h.2 c1).1 ?_
    refine wp_callS (S := []) (as := [vI (V 370 (Int.toNat x2))]) dX12_cutAll_173 lX12_174 ((h.2 c1).2) (by omega) rfl rfl (Nat.le_of_ble_eq_true rfl) ⟨Nat.le_refl _, Nat.le_refl _⟩ ?_
    rintro _ _ V2 ⟨rfl, z2, rfl, q2⟩
    show Wp _ _ _ _ _ 176 _ [vI z2] _ _ _ _ _
    refine wp_if_eq (tgt := 218) dX12_cutAll_176 rfl (fun c3 => ?_) (fun c3 => ?_)
    ·
      exact (q2.1 c3)
    ·
      refine wp_iload_n dX12_cutAll_179 rfl rfl ?_
      refine wp_iload dX12_cutAll_180 rfl ?_
      refine wp_isub dX12_cutAll_182 ?_
      refine wp_iconst dX12_cutAll_183 (by decide) ?_
      refine wp_icmp_ge (tgt := 208) dX12_cutAll_184 rfl (fun c4 => ?_) (fun c4 => ?_)
      ·
        refine wp_lload dX12_cutAll_208 rfl ?_
        exact wp_loc (L2 := [some (vR 369), some (vI x1), some (vI x2), none, some (vI x4), none, none]) ⟨rfl, ⟨rfl, ⟨rfl, ⟨rfl, trivial⟩⟩⟩⟩ ((q2.2 c3).1 c4)
      ·
        refine wp_ldc2 (z := 10) dX12_cutAll_187 kX12_177 (by decide) ?_
        refine wp_lload dX12_cutAll_190 rfl ?_
        refine wp_lmul dX12_cutAll_192 ?_
        refine wp_aload_n dX12_cutAll_193 rfl rfl ?_
        refine wp_getR (b := 370) dX12_cutAll_194 fX12_14 rfl sh369 (by decide) rfl ?_
        refine wp_iload_n dX12_cutAll_197 rfl rfl ?_
        refine wp_iald dX12_cutAll_198 sh370 ((q2.2 c3).2 c4).1 ?_
        refine wp_i2l dX12_cutAll_199 ?_
        refine wp_ladd dX12_cutAll_200 ?_
        refine wp_ldc2 (z := 48) dX12_cutAll_201 kX12_179 (by decide) ?_
        refine wp_lsub dX12_cutAll_204 ?_
        refine wp_goto (tgt := 210) dX12_cutAll_205 rfl ?_
        exact wp_loc (L2 := [some (vR 369), some (vI x1), some (vI x2), none, some (vI x4), none, none]) ⟨rfl, ⟨rfl, ⟨rfl, ⟨rfl, trivial⟩⟩⟩⟩ ((q2.2 c3).2 c4).2
set_option maxHeartbeats 4000000 in
set_option maxRecDepth 10000 in
theorem sX12_cutAll_70 {K : KK} {d : Nat} {V : Mem} {Q : Option AV → Mem → Prop} (x1 : Int) (x2 : Int) (x4 : Int) (j5 : Int) (h : (((V 369 3) ≤ x2 → Wf K (d + 1) mX12_cutAll 129 [some (vR 369), some (vI x1), some (vI x2), none, some (vI x4), some (vJ j5), none] [] V Q) ∧ (¬ ((V 369 3) ≤ x2) → (((0 : Int) ≤ x2 ∧ x2 < (1000 : Nat)) ∧ Mf K d mX12_isLetter [vI (V 370 (Int.toNat x2))] V (fun r V2 => ∃ z2, r = some (vI z2) ∧ ((z2 = 0 → Wf K (d + 1) mX12_cutAll 129 [some (vR 369), some (vI x1), some (vI x2), none, some (vI x4), some (vJ j5), none] [] V2 Q) ∧ (¬ (z2 = 0) → ((8 ≤ (w32 (x2 - x4)) → Wf K (d + 1) mX12_cutAll 121 [some (vR 369), some (vI x1), some (vI x2), none, some (vI x4), none, none] [vJ j5] V2 Q) ∧ (¬ (8 ≤ (w32 (x2 - x4))) → (((0 : Int) ≤ x2 ∧ x2 < (1000 : Nat)) ∧ Mf K d mX12_rank [vI (V2 370 (Int.toNat x2))] V2 (fun r V5 => ∃ z5, r = some (vI z5) ∧ Wf K (d + 1) mX12_cutAll 121 [some (vR 369), some (vI x1), some (vI x2), none, some (vI x4), none, none] [vJ (w64 ((w64 (37 * j5)) + z5))] V5 Q))))))))))) : Wf K (d + 1) mX12_cutAll 70 [some (vR 369), some (vI x1), some (vI x2), none, some (vI x4), some (vJ j5), none] [] V Q := by
  refine wp_iload_n dX12_cutAll_70 rfl rfl ?_
  refine wp_aload_n dX12_cutAll_71 rfl rfl ?_
  refine wp_getI dX12_cutAll_72 fX12_165 rfl sh369 (by decide) ?_
  refine wp_icmp_ge (tgt := 129) dX12_cutAll_75 rfl (fun c1 => ?_) (fun c1 => ?_)
  ·
    exact (h.1 c1)
  ·
    refine wp_aload_n dX12_cutAll_78 rfl rfl ?_
    refine wp_getR (b := 370) dX12_cutAll_79 fX12_14 rfl sh369 (by decide) rfl ?_
    refine wp_iload_n dX12_cutAll_82 rfl rfl ?_
    refine wp_iald dX12_cutAll_83 sh370 (h.2 c1).1 ?_
    refine wp_callS (S := []) (as := [vI (V 370 (Int.toNat x2))]) dX12_cutAll_84 lX12_161 ((h.2 c1).2) (by omega) rfl rfl (Nat.le_of_ble_eq_true rfl) ⟨Nat.le_refl _, Nat.le_refl _⟩ ?_
    rintro _ _ V2 ⟨rfl, z2, rfl, q2⟩
    show Wp _ _ _ _ _ 87 _ [vI z2] _ _ _ _ _
    refine wp_if_eq (tgt := 129) dX12_cutAll_87 rfl (fun c3 => ?_) (fun c3 => ?_)
    ·
      exact (q2.1 c3)
    ·
      refine wp_iload_n dX12_cutAll_90 rfl rfl ?_
      refine wp_iload dX12_cutAll_91 rfl ?_
      refine wp_isub dX12_cutAll_93 ?_
      refine wp_bipush dX12_cutAll_94 (by decide) ?_
      refine wp_icmp_ge (tgt := 119) dX12_cutAll_96 rfl (fun c4 => ?_) (fun c4 => ?_)
      ·
        refine wp_lload dX12_cutAll_119 rfl ?_
        exact wp_loc (L2 := [some (vR 369), some (vI x1), some (vI x2), none, some (vI x4), none, none]) ⟨rfl, ⟨rfl, ⟨rfl, ⟨rfl, trivial⟩⟩⟩⟩ ((q2.2 c3).1 c4)
      ·
        refine wp_ldc2 (z := 37) dX12_cutAll_99 kX12_168 (by decide) ?_
        refine wp_lload dX12_cutAll_102 rfl ?_
        refine wp_lmul dX12_cutAll_104 ?_
        refine wp_aload_n dX12_cutAll_105 rfl rfl ?_
        refine wp_getR (b := 370) dX12_cutAll_106 fX12_14 rfl sh369 (by decide) rfl ?_
        refine wp_iload_n dX12_cutAll_109 rfl rfl ?_
        refine wp_iald dX12_cutAll_110 sh370 ((q2.2 c3).2 c4).1 ?_
        refine wp_callS (S := [vJ (w64 (37 * j5))]) (as := [vI (V2 370 (Int.toNat x2))]) dX12_cutAll_111 lX12_170 (((q2.2 c3).2 c4).2) (by omega) rfl rfl (Nat.le_of_ble_eq_true rfl) ⟨Nat.le_refl _, Nat.le_refl _⟩ ?_
        rintro _ _ V5 ⟨rfl, z5, rfl, q5⟩
        show Wp _ _ _ _ _ 114 _ [vI z5, vJ (w64 (37 * j5))] _ _ _ _ _
        refine wp_i2l dX12_cutAll_114 ?_
        refine wp_ladd dX12_cutAll_115 ?_
        refine wp_goto (tgt := 121) dX12_cutAll_116 rfl ?_
        exact wp_loc (L2 := [some (vR 369), some (vI x1), some (vI x2), none, some (vI x4), none, none]) ⟨rfl, ⟨rfl, ⟨rfl, ⟨rfl, trivial⟩⟩⟩⟩ q5
set_option maxHeartbeats 4000000 in
set_option maxRecDepth 10000 in
theorem sX12_cutAll_265 {K : KK} {d : Nat} {V : Mem} {Q : Option AV → Mem → Prop} (x1 : Int) (x2 : Int) (j5 : Int) (h : (((0 : Int) ≤ x1 ∧ x1 < (1002 : Nat)) ∧ Wf K (d + 1) mX12_cutAll 17 [some (vR 369), some (vI (w32 (x1 + 1))), some (vI x2), none, none, none, none] [] (upm V 373 (Int.toNat x1) j5) Q)) : Wf K (d + 1) mX12_cutAll 265 [some (vR 369), some (vI x1), some (vI x2), none, none, some (vJ j5), none] [] V Q := by
  refine wp_aload_n dX12_cutAll_265 rfl rfl ?_
  refine wp_getR (b := 373) dX12_cutAll_266 fX12_30 rfl sh369 (by decide) rfl ?_
  refine wp_iload_n dX12_cutAll_269 rfl rfl ?_
  refine wp_lload dX12_cutAll_270 rfl ?_
  refine wp_last dX12_cutAll_272 sh373 h.1 ?_
  refine wp_iinc dX12_cutAll_273 rfl rfl ?_
  refine wp_goto (tgt := 17) dX12_cutAll_276 rfl ?_
  exact wp_loc (L2 := [some (vR 369), some (vI (w32 (x1 + 1))), some (vI x2), none, none, none, none]) ⟨rfl, ⟨rfl, ⟨rfl, trivial⟩⟩⟩ h.2
set_option maxHeartbeats 4000000 in
set_option maxRecDepth 10000 in
theorem sX12_cutAll_218 {K : KK} {d : Nat} {V : Mem} {Q : Option AV → Mem → Prop} (x1 : Int) (x2 : Int) (x4 : Int) (j5 : Int) (h : (((w32 (x2 - x4)) ≤ 4 → Wf K (d + 1) mX12_cutAll 236 [some (vR 369), some (vI x1), some (vI x2), none, none, some (vJ j5), none] [vI 2, vI x1, vR 371] V Q) ∧ (¬ ((w32 (x2 - x4)) ≤ 4) → Wf K (d + 1) mX12_cutAll 236 [some (vR 369), some (vI x1), some (vI x2), none, none, some (vJ j5), none] [vI 4, vI x1, vR 371] V Q))) : Wf K (d + 1) mX12_cutAll 218 [some (vR 369), some (vI x1), some (vI x2), none, some (vI x4), some (vJ j5), none] [] V Q := by
  refine wp_aload_n dX12_cutAll_218 rfl rfl ?_
  refine wp_getR (b := 371) dX12_cutAll_219 fX12_24 rfl sh369 (by decide) rfl ?_
  refine wp_iload_n dX12_cutAll_222 rfl rfl ?_
  refine wp_iload_n dX12_cutAll_223 rfl rfl ?_
  refine wp_iload dX12_cutAll_224 rfl ?_
  refine wp_isub dX12_cutAll_226 ?_
  refine wp_iconst dX12_cutAll_227 (by decide) ?_
  refine wp_icmp_le (tgt := 235) dX12_cutAll_228 rfl (fun c1 => ?_) (fun c1 => ?_)
  ·
    refine wp_iconst dX12_cutAll_235 (by decide) ?_
    exact wp_loc (L2 := [some (vR 369), some (vI x1), some (vI x2), none, none, some (vJ j5), none]) ⟨rfl, ⟨rfl, ⟨rfl, ⟨rfl, trivial⟩⟩⟩⟩ (h.1 c1)
  ·
    refine wp_iconst dX12_cutAll_231 (by decide) ?_
    refine wp_goto (tgt := 236) dX12_cutAll_232 rfl ?_
    exact wp_loc (L2 := [some (vR 369), some (vI x1), some (vI x2), none, none, some (vJ j5), none]) ⟨rfl, ⟨rfl, ⟨rfl, ⟨rfl, trivial⟩⟩⟩⟩ (h.2 c1)
set_option maxHeartbeats 4000000 in
set_option maxRecDepth 10000 in
theorem sX12_cutAll_210 {K : KK} {d : Nat} {V : Mem} {Q : Option AV → Mem → Prop} (x1 : Int) (x2 : Int) (x4 : Int) (t0 : Int) (h : Wf K (d + 1) mX12_cutAll 159 [some (vR 369), some (vI x1), some (vI (w32 (x2 + 1))), none, some (vI x4), some (vJ t0), none] [] V Q) : Wf K (d + 1) mX12_cutAll 210 [some (vR 369), some (vI x1), some (vI x2), none, some (vI x4), none, none] [vJ t0] V Q := by
  refine wp_lstore dX12_cutAll_210 (by decide) rfl ?_
  refine wp_iinc dX12_cutAll_212 rfl rfl ?_
  refine wp_goto (tgt := 159) dX12_cutAll_215 rfl ?_
  exact h
set_option maxHeartbeats 4000000 in
set_option maxRecDepth 10000 in
theorem sX12_cutAll_129 {K : KK} {d : Nat} {V : Mem} {Q : Option AV → Mem → Prop} (x1 : Int) (x2 : Int) (x4 : Int) (j5 : Int) (h : (((w32 (x2 - x4)) ≤ 8 → Wf K (d + 1) mX12_cutAll 148 [some (vR 369), some (vI x1), some (vI x2), none, none, some (vJ j5), none] [vI 1, vI x1, vR 371] V Q) ∧ (¬ ((w32 (x2 - x4)) ≤ 8) → Wf K (d + 1) mX12_cutAll 148 [some (vR 369), some (vI x1), some (vI x2), none, none, some (vJ j5), none] [vI 4, vI x1, vR 371] V Q))) : Wf K (d + 1) mX12_cutAll 129 [some (vR 369), some (vI x1), some (vI x2), none, some (vI x4), some (vJ j5), none] [] V Q := by
  refine wp_aload_n dX12_cutAll_129 rfl rfl ?_
  refine wp_getR (b := 371) dX12_cutAll_130 fX12_24 rfl sh369 (by decide) rfl ?_
  refine wp_iload_n dX12_cutAll_133 rfl rfl ?_
  refine wp_iload_n dX12_cutAll_134 rfl rfl ?_
  refine wp_iload dX12_cutAll_135 rfl ?_
  refine wp_isub dX12_cutAll_137 ?_
  refine wp_bipush dX12_cutAll_138 (by decide) ?_
  refine wp_icmp_le (tgt := 147) dX12_cutAll_140 rfl (fun c1 => ?_) (fun c1 => ?_)
  ·
    refine wp_iconst dX12_cutAll_147 (by decide) ?_
    exact wp_loc (L2 := [some (vR 369), some (vI x1), some (vI x2), none, none, some (vJ j5), none]) ⟨rfl, ⟨rfl, ⟨rfl, ⟨rfl, trivial⟩⟩⟩⟩ (h.1 c1)
  ·
    refine wp_iconst dX12_cutAll_143 (by decide) ?_
    refine wp_goto (tgt := 148) dX12_cutAll_144 rfl ?_
    exact wp_loc (L2 := [some (vR 369), some (vI x1), some (vI x2), none, none, some (vJ j5), none]) ⟨rfl, ⟨rfl, ⟨rfl, ⟨rfl, trivial⟩⟩⟩⟩ (h.2 c1)
set_option maxHeartbeats 4000000 in
set_option maxRecDepth 10000 in
theorem sX12_cutAll_121 {K : KK} {d : Nat} {V : Mem} {Q : Option AV → Mem → Prop} (x1 : Int) (x2 : Int) (x4 : Int) (t0 : Int) (h : Wf K (d + 1) mX12_cutAll 70 [some (vR 369), some (vI x1), some (vI (w32 (x2 + 1))), none, some (vI x4), some (vJ t0), none] [] V Q) : Wf K (d + 1) mX12_cutAll 121 [some (vR 369), some (vI x1), some (vI x2), none, some (vI x4), none, none] [vJ t0] V Q := by
  refine wp_lstore dX12_cutAll_121 (by decide) rfl ?_
  refine wp_iinc dX12_cutAll_123 rfl rfl ?_
  refine wp_goto (tgt := 70) dX12_cutAll_126 rfl ?_
  exact h
set_option maxHeartbeats 4000000 in
set_option maxRecDepth 10000 in
theorem sX12_cutAll_236 {K : KK} {d : Nat} {V : Mem} {Q : Option AV → Mem → Prop} (x1 : Int) (x2 : Int) (j5 : Int) (s1 : Int) (s2 : Int) (h : (((0 : Int) ≤ s1 ∧ s1 < (1002 : Nat)) ∧ Wf K (d + 1) mX12_cutAll 265 [some (vR 369), some (vI x1), some (vI x2), none, none, some (vJ j5), none] [] (upm V 371 (Int.toNat s1) s2) Q)) : Wf K (d + 1) mX12_cutAll 236 [some (vR 369), some (vI x1), some (vI x2), none, none, some (vJ j5), none] [vI s2, vI s1, vR 371] V Q := by
  refine wp_iast dX12_cutAll_236 sh371 h.1 ?_
  refine wp_goto (tgt := 265) dX12_cutAll_237 rfl ?_
  exact h.2
set_option maxHeartbeats 4000000 in
set_option maxRecDepth 10000 in
theorem sX12_cutAll_148 {K : KK} {d : Nat} {V : Mem} {Q : Option AV → Mem → Prop} (x1 : Int) (x2 : Int) (j5 : Int) (s1 : Int) (s2 : Int) (h : (((0 : Int) ≤ s1 ∧ s1 < (1002 : Nat)) ∧ Wf K (d + 1) mX12_cutAll 265 [some (vR 369), some (vI x1), some (vI x2), none, none, some (vJ j5), none] [] (upm V 371 (Int.toNat s1) s2) Q)) : Wf K (d + 1) mX12_cutAll 148 [some (vR 369), some (vI x1), some (vI x2), none, none, some (vJ j5), none] [vI s2, vI s1, vR 371] V Q := by
  refine wp_iast dX12_cutAll_148 sh371 h.1 ?_
  refine wp_goto (tgt := 265) dX12_cutAll_149 rfl ?_
  exact h.2
set_option maxHeartbeats 4000000 in
set_option maxRecDepth 10000 in
theorem sX12_wrong {K : KK} {d : Nat} {V : Mem} {Q : Option AV → Mem → Prop} (x1 : Int) (h : ((¬ (V 369 8) = 0 → Q none V) ∧ ((V 369 8) = 0 → (((0 : Int) ≤ (V 369 7) ∧ (V 369 7) < (1002 : Nat)) ∧ Q none (upm V 369 8 (w32 (x1 + (w32 (16 * (V 372 (Int.toNat (V 369 7)))))))))))) : Mf K d mX12_wrong [vR 369, vI x1] V Q := by
  refine Mt.of2 (L := [some (vR 369), some (vI x1)]) pnX12 rfl rfl ?_
  refine wp_aload_n dX12_wrong_0 rfl rfl ?_
  refine wp_getI dX12_wrong_1 fX12_187 rfl sh369 (by decide) ?_
  refine wp_if_ne (tgt := 25) dX12_wrong_4 rfl (fun c1 => ?_) (fun c1 => ?_)
  ·
    exact wp_return dX12_wrong_25 rfl ⟨rfl, rfl⟩ ⟨rfl, (h.1 c1)⟩
  ·
    refine wp_aload_n dX12_wrong_7 rfl rfl ?_
    refine wp_iload_n dX12_wrong_8 rfl rfl ?_
    refine wp_bipush dX12_wrong_9 (by decide) ?_
    refine wp_aload_n dX12_wrong_11 rfl rfl ?_
    refine wp_getR (b := 372) dX12_wrong_12 fX12_27 rfl sh369 (by decide) rfl ?_
    refine wp_aload_n dX12_wrong_15 rfl rfl ?_
    refine wp_getI dX12_wrong_16 fX12_184 rfl sh369 (by decide) ?_
    refine wp_iald dX12_wrong_19 sh372 (h.2 c1).1 ?_
    refine wp_imul dX12_wrong_20 ?_
    refine wp_iadd dX12_wrong_21 ?_
    refine wp_putI dX12_wrong_22 fwX12_187 rfl sh369 (by decide) ?_
    exact wp_return dX12_wrong_25 rfl ⟨rfl, rfl⟩ ⟨rfl, (h.2 c1).2⟩
set_option maxHeartbeats 4000000 in
set_option maxRecDepth 10000 in
theorem sX12_isSign {K : KK} {d : Nat} {V : Mem} {Q : Option AV → Mem → Prop} (x1 : Int) (h : ((¬ (V 369 8) = 0 → Q (some (vI 0)) V) ∧ ((V 369 8) = 0 → (((0 : Int) ≤ (V 369 7) ∧ (V 369 7) < (1002 : Nat)) ∧ ((¬ (V 371 (Int.toNat (V 369 7))) = 3 → Q (some (vI 0)) V) ∧ ((V 371 (Int.toNat (V 369 7))) = 3 → (((0 : Int) ≤ (V 369 7) ∧ (V 369 7) < (1002 : Nat)) ∧ ((¬ (b_lcmp (V 373 (Int.toNat (V 369 7))) x1) = 0 → Q (some (vI 0)) V) ∧ ((b_lcmp (V 373 (Int.toNat (V 369 7))) x1) = 0 → Q (some (vI 1)) V))))))))) : Mf K d mX12_isSign [vR 369, vI x1] V Q := by
  refine Mt.of2 (L := [some (vR 369), some (vI x1)]) pnX12 rfl rfl ?_
  refine wp_aload_n dX12_isSign_0 rfl rfl ?_
  refine wp_getI dX12_isSign_1 fX12_187 rfl sh369 (by decide) ?_
  refine wp_if_ne (tgt := 39) dX12_isSign_4 rfl (fun c1 => ?_) (fun c1 => ?_)
  ·
    refine wp_iconst dX12_isSign_39 (by decide) ?_
    exact wp_zreturn dX12_isSign_40 rfl ⟨rfl, rfl⟩ (by decide) ⟨rfl, (h.1 c1)⟩
  ·
    refine wp_aload_n dX12_isSign_7 rfl rfl ?_
    refine wp_getR (b := 371) dX12_isSign_8 fX12_24 rfl sh369 (by decide) rfl ?_
    refine wp_aload_n dX12_isSign_11 rfl rfl ?_
    refine wp_getI dX12_isSign_12 fX12_184 rfl sh369 (by decide) ?_
    refine wp_iald dX12_isSign_15 sh371 (h.2 c1).1 ?_
    refine wp_iconst dX12_isSign_16 (by decide) ?_
    refine wp_icmp_ne (tgt := 39) dX12_isSign_17 rfl (fun c2 => ?_) (fun c2 => ?_)
    ·
      refine wp_iconst dX12_isSign_39 (by decide) ?_
      exact wp_zreturn dX12_isSign_40 rfl ⟨rfl, rfl⟩ (by decide) ⟨rfl, ((h.2 c1).2.1 c2)⟩
    ·
      refine wp_aload_n dX12_isSign_20 rfl rfl ?_
      refine wp_getR (b := 373) dX12_isSign_21 fX12_30 rfl sh369 (by decide) rfl ?_
      refine wp_aload_n dX12_isSign_24 rfl rfl ?_
      refine wp_getI dX12_isSign_25 fX12_184 rfl sh369 (by decide) ?_
      refine wp_lald dX12_isSign_28 sh373 ((h.2 c1).2.2 c2).1 ?_
      refine wp_iload_n dX12_isSign_29 rfl rfl ?_
      refine wp_i2l dX12_isSign_30 ?_
      refine wp_lcmp dX12_isSign_31 ?_
      refine wp_if_ne (tgt := 39) dX12_isSign_32 rfl (fun c3 => ?_) (fun c3 => ?_)
      ·
        refine wp_iconst dX12_isSign_39 (by decide) ?_
        exact wp_zreturn dX12_isSign_40 rfl ⟨rfl, rfl⟩ (by decide) ⟨rfl, (((h.2 c1).2.2 c2).2.1 c3)⟩
      ·
        refine wp_iconst dX12_isSign_35 (by decide) ?_
        refine wp_goto (tgt := 40) dX12_isSign_36 rfl ?_
        exact wp_zreturn dX12_isSign_40 rfl ⟨rfl, rfl⟩ (by decide) ⟨rfl, (((h.2 c1).2.2 c2).2.2 c3)⟩
set_option maxHeartbeats 4000000 in
set_option maxRecDepth 10000 in
theorem sX12_isWord {K : KK} {d : Nat} {V : Mem} {Q : Option AV → Mem → Prop} (x1 : Int) (h : ((¬ (V 369 8) = 0 → Q (some (vI 0)) V) ∧ ((V 369 8) = 0 → (((0 : Int) ≤ (V 369 7) ∧ (V 369 7) < (1002 : Nat)) ∧ ((¬ (V 371 (Int.toNat (V 369 7))) = 1 → Q (some (vI 0)) V) ∧ ((V 371 (Int.toNat (V 369 7))) = 1 → (((0 : Int) ≤ (V 369 7) ∧ (V 369 7) < (1002 : Nat)) ∧ (((0 : Int) ≤ x1 ∧ x1 < (19 : Nat)) ∧ ((¬ (b_lcmp (V 373 (Int.toNat (V 369 7))) (V 374 (Int.toNat x1))) = 0 → Q (some (vI 0)) V) ∧ ((b_lcmp (V 373 (Int.toNat (V 369 7))) (V 374 (Int.toNat x1))) = 0 → Q (some (vI 1)) V)))))))))) : Mf K d mX12_isWord [vR 369, vI x1] V Q := by
  refine Mt.of2 (L := [some (vR 369), some (vI x1)]) pnX12 rfl rfl ?_
  refine wp_aload_n dX12_isWord_0 rfl rfl ?_
  refine wp_getI dX12_isWord_1 fX12_187 rfl sh369 (by decide) ?_
  refine wp_if_ne (tgt := 43) dX12_isWord_4 rfl (fun c1 => ?_) (fun c1 => ?_)
  ·
    refine wp_iconst dX12_isWord_43 (by decide) ?_
    exact wp_zreturn dX12_isWord_44 rfl ⟨rfl, rfl⟩ (by decide) ⟨rfl, (h.1 c1)⟩
  ·
    refine wp_aload_n dX12_isWord_7 rfl rfl ?_
    refine wp_getR (b := 371) dX12_isWord_8 fX12_24 rfl sh369 (by decide) rfl ?_
    refine wp_aload_n dX12_isWord_11 rfl rfl ?_
    refine wp_getI dX12_isWord_12 fX12_184 rfl sh369 (by decide) ?_
    refine wp_iald dX12_isWord_15 sh371 (h.2 c1).1 ?_
    refine wp_iconst dX12_isWord_16 (by decide) ?_
    refine wp_icmp_ne (tgt := 43) dX12_isWord_17 rfl (fun c2 => ?_) (fun c2 => ?_)
    ·
      refine wp_iconst dX12_isWord_43 (by decide) ?_
      exact wp_zreturn dX12_isWord_44 rfl ⟨rfl, rfl⟩ (by decide) ⟨rfl, ((h.2 c1).2.1 c2)⟩
    ·
      refine wp_aload_n dX12_isWord_20 rfl rfl ?_
      refine wp_getR (b := 373) dX12_isWord_21 fX12_30 rfl sh369 (by decide) rfl ?_
      refine wp_aload_n dX12_isWord_24 rfl rfl ?_
      refine wp_getI dX12_isWord_25 fX12_184 rfl sh369 (by decide) ?_
      refine wp_lald dX12_isWord_28 sh373 ((h.2 c1).2.2 c2).1 ?_
      refine wp_aload_n dX12_isWord_29 rfl rfl ?_
      refine wp_getR (b := 374) dX12_isWord_30 fX12_72 rfl sh369 (by decide) rfl ?_
      refine wp_iload_n dX12_isWord_33 rfl rfl ?_
      refine wp_lald dX12_isWord_34 sh374 ((h.2 c1).2.2 c2).2.1 ?_
      refine wp_lcmp dX12_isWord_35 ?_
      refine wp_if_ne (tgt := 43) dX12_isWord_36 rfl (fun c3 => ?_) (fun c3 => ?_)
      ·
        refine wp_iconst dX12_isWord_43 (by decide) ?_
        exact wp_zreturn dX12_isWord_44 rfl ⟨rfl, rfl⟩ (by decide) ⟨rfl, (((h.2 c1).2.2 c2).2.2.1 c3)⟩
      ·
        refine wp_iconst dX12_isWord_39 (by decide) ?_
        refine wp_goto (tgt := 44) dX12_isWord_40 rfl ?_
        exact wp_zreturn dX12_isWord_44 rfl ⟨rfl, rfl⟩ (by decide) ⟨rfl, (((h.2 c1).2.2 c2).2.2.2 c3)⟩
set_option maxHeartbeats 4000000 in
set_option maxRecDepth 10000 in
theorem sX12_takeSign {K : KK} {d : Nat} {V : Mem} {Q : Option AV → Mem → Prop} (x1 : Int) (h : Mf K d mX12_isSign [vR 369, vI x1] V (fun r V1 => ∃ z1, r = some (vI z1) ∧ ((z1 = 0 → ((¬ (V1 369 8) = 0 → Q none V1) ∧ ((V1 369 8) = 0 → (((0 : Int) ≤ (V1 369 7) ∧ (V1 369 7) < (1002 : Nat)) ∧ Q none (upm V1 369 8 (w32 (1 + (w32 (16 * (V1 372 (Int.toNat (V1 369 7)))))))))))) ∧ (¬ (z1 = 0) → Q none (upm V1 369 7 (w32 ((V1 369 7) + 1))))))) : Mf K (d + 1) mX12_takeSign [vR 369, vI x1] V Q := by
  refine Mt.of2 (L := [some (vR 369), some (vI x1)]) pnX12 rfl rfl ?_
  refine wp_aload_n dX12_takeSign_0 rfl rfl ?_
  refine wp_iload_n dX12_takeSign_1 rfl rfl ?_
  refine wp_callV (S := []) (as := [vI x1]) dX12_takeSign_2 lX12_190 (h) (by omega) sh369 rfl rfl (Nat.le_of_ble_eq_true rfl) ⟨Nat.le_refl _, Nat.le_refl _⟩ ?_
  rintro _ _ V1 ⟨rfl, z1, rfl, q1⟩
  show Wp _ _ _ _ _ 5 _ [vI z1] _ _ _ _ _
  refine wp_if_eq (tgt := 21) dX12_takeSign_5 rfl (fun c2 => ?_) (fun c2 => ?_)
  ·
    refine wp_aload_n dX12_takeSign_21 rfl rfl ?_
    refine wp_iconst dX12_takeSign_22 (by decide) ?_
    refine wp_inlV (d' := d) (S := []) (as := [vI 1]) dX12_takeSign_23 lX12_193 (by omega) sh369 rfl rfl (Nat.le_of_ble_eq_true rfl) ⟨Nat.le_refl _, Nat.le_refl _⟩ (Mt.of2 (L := [some (vR 369), some (vI 1)]) pnX12 rfl rfl ?_)
    refine wp_aload_n dX12_wrong_0 rfl rfl ?_
    refine wp_getI dX12_wrong_1 fX12_187 rfl sh369 (by decide) ?_
    refine wp_if_ne (tgt := 25) dX12_wrong_4 rfl (fun c3 => ?_) (fun c3 => ?_)
    ·
      refine wp_return dX12_wrong_25 rfl ⟨rfl, rfl⟩ ?_
      show Wp _ _ _ _ _ 26 _ [] _ _ _ _ _
      exact wp_return dX12_takeSign_26 rfl ⟨rfl, rfl⟩ ⟨rfl, ((q1.1 c2).1 c3)⟩
    ·
      refine wp_aload_n dX12_wrong_7 rfl rfl ?_
      refine wp_iload_n dX12_wrong_8 rfl rfl ?_
      refine wp_bipush dX12_wrong_9 (by decide) ?_
      refine wp_aload_n dX12_wrong_11 rfl rfl ?_
      refine wp_getR (b := 372) dX12_wrong_12 fX12_27 rfl sh369 (by decide) rfl ?_
      refine wp_aload_n dX12_wrong_15 rfl rfl ?_
      refine wp_getI dX12_wrong_16 fX12_184 rfl sh369 (by decide) ?_
      refine wp_iald dX12_wrong_19 sh372 ((q1.1 c2).2 c3).1 ?_
      refine wp_imul dX12_wrong_20 ?_
      refine wp_iadd dX12_wrong_21 ?_
      refine wp_putI dX12_wrong_22 fwX12_187 rfl sh369 (by decide) ?_
      refine wp_return dX12_wrong_25 rfl ⟨rfl, rfl⟩ ?_
      show Wp _ _ _ _ _ 26 _ [] _ _ _ _ _
      exact wp_return dX12_takeSign_26 rfl ⟨rfl, rfl⟩ ⟨rfl, ((q1.1 c2).2 c3).2⟩
  ·
    refine wp_aload_n dX12_takeSign_8 rfl rfl ?_
    refine wp_dup dX12_takeSign_9 rfl ?_
    refine wp_getI dX12_takeSign_10 fX12_184 rfl sh369 (by decide) ?_
    refine wp_iconst dX12_takeSign_13 (by decide) ?_
    refine wp_iadd dX12_takeSign_14 ?_
    refine wp_putI dX12_takeSign_15 fwX12_184 rfl sh369 (by decide) ?_
    refine wp_goto (tgt := 26) dX12_takeSign_18 rfl ?_
    exact wp_return dX12_takeSign_26 rfl ⟨rfl, rfl⟩ ⟨rfl, (q1.2 c2)⟩
set_option maxHeartbeats 4000000 in
set_option maxRecDepth 10000 in
theorem sX12_hasSign {K : KK} {d : Nat} {V : Mem} {Q : Option AV → Mem → Prop} (x1 : Int) (h : Mf K d mX12_isSign [vR 369, vI x1] V (fun r V1 => ∃ z1, r = some (vI z1) ∧ ((z1 = 0 → ((z1 = 0 ∨ z1 = 1) ∧ Q (some (vI z1)) (upm V1 369 7 (w32 ((V1 369 7) + 0))))) ∧ (¬ (z1 = 0) → ((z1 = 0 ∨ z1 = 1) ∧ Q (some (vI z1)) (upm V1 369 7 (w32 ((V1 369 7) + 1)))))))) : Mf K (d + 1) mX12_hasSign [vR 369, vI x1] V Q := by
  refine Mt.of2 (L := [some (vR 369), some (vI x1), none]) pnX12 rfl rfl ?_
  refine wp_aload_n dX12_hasSign_0 rfl rfl ?_
  refine wp_iload_n dX12_hasSign_1 rfl rfl ?_
  refine wp_callV (S := []) (as := [vI x1]) dX12_hasSign_2 lX12_190 (h) (by omega) sh369 rfl rfl (Nat.le_of_ble_eq_true rfl) ⟨Nat.le_refl _, Nat.le_refl _⟩ ?_
  rintro _ _ V1 ⟨rfl, z1, rfl, q1⟩
  show Wp _ _ _ _ _ 5 _ [vI z1] _ _ _ _ _
  refine wp_istore_n dX12_hasSign_5 rfl (by decide) rfl ?_
  refine wp_aload_n dX12_hasSign_6 rfl rfl ?_
  refine wp_dup dX12_hasSign_7 rfl ?_
  refine wp_getI dX12_hasSign_8 fX12_184 rfl sh369 (by decide) ?_
  refine wp_iload_n dX12_hasSign_11 rfl rfl ?_
  refine wp_if_eq (tgt := 19) dX12_hasSign_12 rfl (fun c2 => ?_) (fun c2 => ?_)
  ·
    refine wp_iconst dX12_hasSign_19 (by decide) ?_
    refine wp_iadd dX12_hasSign_20 ?_
    refine wp_putI dX12_hasSign_21 fwX12_184 rfl sh369 (by decide) ?_
    refine wp_iload_n dX12_hasSign_24 rfl rfl ?_
    exact wp_zreturn dX12_hasSign_25 rfl ⟨rfl, rfl⟩ (q1.1 c2).1 ⟨rfl, (q1.1 c2).2⟩
  ·
    refine wp_iconst dX12_hasSign_15 (by decide) ?_
    refine wp_goto (tgt := 20) dX12_hasSign_16 rfl ?_
    refine wp_iadd dX12_hasSign_20 ?_
    refine wp_putI dX12_hasSign_21 fwX12_184 rfl sh369 (by decide) ?_
    refine wp_iload_n dX12_hasSign_24 rfl rfl ?_
    exact wp_zreturn dX12_hasSign_25 rfl ⟨rfl, rfl⟩ (q1.2 c2).1 ⟨rfl, (q1.2 c2).2⟩
set_option maxHeartbeats 4000000 in
set_option maxRecDepth 10000 in
theorem sX12_hasWord {K : KK} {d : Nat} {V : Mem} {Q : Option AV → Mem → Prop} (x1 : Int) (h : Mf K d mX12_isWord [vR 369, vI x1] V (fun r V1 => ∃ z1, r = some (vI z1) ∧ ((z1 = 0 → ((z1 = 0 ∨ z1 = 1) ∧ Q (some (vI z1)) (upm V1 369 7 (w32 ((V1 369 7) + 0))))) ∧ (¬ (z1 = 0) → ((z1 = 0 ∨ z1 = 1) ∧ Q (some (vI z1)) (upm V1 369 7 (w32 ((V1 369 7) + 1)))))))) : Mf K (d + 1) mX12_hasWord [vR 369, vI x1] V Q := by
  refine Mt.of2 (L := [some (vR 369), some (vI x1), none]) pnX12 rfl rfl ?_
  refine wp_aload_n dX12_hasWord_0 rfl rfl ?_
  refine wp_iload_n dX12_hasWord_1 rfl rfl ?_
  refine wp_callV (S := []) (as := [vI x1]) dX12_hasWord_2 lX12_196 (h) (by omega) sh369 rfl rfl (Nat.le_of_ble_eq_true rfl) ⟨Nat.le_refl _, Nat.le_refl _⟩ ?_
  rintro _ _ V1 ⟨rfl, z1, rfl, q1⟩
  show Wp _ _ _ _ _ 5 _ [vI z1] _ _ _ _ _
  refine wp_istore_n dX12_hasWord_5 rfl (by decide) rfl ?_
  refine wp_aload_n dX12_hasWord_6 rfl rfl ?_
  refine wp_dup dX12_hasWord_7 rfl ?_
  refine wp_getI dX12_hasWord_8 fX12_184 rfl sh369 (by decide) ?_
  refine wp_iload_n dX12_hasWord_11 rfl rfl ?_
  refine wp_if_eq (tgt := 19) dX12_hasWord_12 rfl (fun c2 => ?_) (fun c2 => ?_)
  ·
    refine wp_iconst dX12_hasWord_19 (by decide) ?_
    refine wp_iadd dX12_hasWord_20 ?_
    refine wp_putI dX12_hasWord_21 fwX12_184 rfl sh369 (by decide) ?_
    refine wp_iload_n dX12_hasWord_24 rfl rfl ?_
    exact wp_zreturn dX12_hasWord_25 rfl ⟨rfl, rfl⟩ (q1.1 c2).1 ⟨rfl, (q1.1 c2).2⟩
  ·
    refine wp_iconst dX12_hasWord_15 (by decide) ?_
    refine wp_goto (tgt := 20) dX12_hasWord_16 rfl ?_
    refine wp_iadd dX12_hasWord_20 ?_
    refine wp_putI dX12_hasWord_21 fwX12_184 rfl sh369 (by decide) ?_
    refine wp_iload_n dX12_hasWord_24 rfl rfl ?_
    exact wp_zreturn dX12_hasWord_25 rfl ⟨rfl, rfl⟩ (q1.2 c2).1 ⟨rfl, (q1.2 c2).2⟩
set_option maxHeartbeats 4000000 in
set_option maxRecDepth 10000 in
theorem sX12_within {K : KK} {d : Nat} {V : Mem} {Q : Option AV → Mem → Prop} (x0 : Int) (x1 : Int) (x2 : Int) (h : ((x0 < x1 → Q (some (vI 0)) V) ∧ (¬ (x0 < x1) → ((x2 < x0 → Q (some (vI 0)) V) ∧ (¬ (x2 < x0) → Q (some (vI 1)) V))))) : Mf K d mX12_within [vI x0, vI x1, vI x2] V Q := by
  refine Mt.of2 (L := [some (vI x0), some (vI x1), some (vI x2)]) pnX12 rfl rfl ?_
  refine wp_iload_n dX12_within_0 rfl rfl ?_
  refine wp_iload_n dX12_within_1 rfl rfl ?_
  refine wp_icmp_lt (tgt := 14) dX12_within_2 rfl (fun c1 => ?_) (fun c1 => ?_)
  ·
    refine wp_iconst dX12_within_14 (by decide) ?_
    exact wp_zreturn dX12_within_15 rfl ⟨rfl, rfl⟩ (by decide) ⟨rfl, (h.1 c1)⟩
  ·
    refine wp_iload_n dX12_within_5 rfl rfl ?_
    refine wp_iload_n dX12_within_6 rfl rfl ?_
    refine wp_icmp_gt (tgt := 14) dX12_within_7 rfl (fun c2 => ?_) (fun c2 => ?_)
    ·
      refine wp_iconst dX12_within_14 (by decide) ?_
      exact wp_zreturn dX12_within_15 rfl ⟨rfl, rfl⟩ (by decide) ⟨rfl, ((h.2 c1).1 c2)⟩
    ·
      refine wp_iconst dX12_within_10 (by decide) ?_
      refine wp_goto (tgt := 15) dX12_within_11 rfl ?_
      exact wp_zreturn dX12_within_15 rfl ⟨rfl, rfl⟩ (by decide) ⟨rfl, ((h.2 c1).2 c2)⟩
set_option maxHeartbeats 4000000 in
set_option maxRecDepth 10000 in
theorem sX12_standsAsAlways {K : KK} {d : Nat} {V : Mem} {Q : Option AV → Mem → Prop} (x1 : Int) (h : Wf K d mX12_standsAsAlways 2 [some (vR 369), some (vI x1), some (vI 0)] [] V Q) : Mf K d mX12_standsAsAlways [vR 369, vI x1] V Q := by
  refine Mt.of2 (L := [some (vR 369), some (vI x1), none]) pnX12 rfl rfl ?_
  refine wp_iconst dX12_standsAsAlways_0 (by decide) ?_
  refine wp_istore_n dX12_standsAsAlways_1 rfl (by decide) rfl ?_
  exact h
set_option maxHeartbeats 4000000 in
set_option maxRecDepth 10000 in
theorem sX12_standsAsAlways_2 {K : KK} {d : Nat} {V : Mem} {Q : Option AV → Mem → Prop} (x1 : Int) (x2 : Int) (h : ((140 ≤ x2 → (((0 : Int) ≤ (w32 (x1 + 2)) ∧ (w32 (x1 + 2)) < (280 : Nat)) ∧ Q none (upm V 375 (Int.toNat (w32 (x1 + 2))) (-1)))) ∧ (¬ (140 ≤ x2) → (((0 : Int) ≤ (w32 (x1 + x2)) ∧ (w32 (x1 + x2)) < (280 : Nat)) ∧ Wf K d mX12_standsAsAlways 2 [some (vR 369), some (vI x1), some (vI (w32 (x2 + 1)))] [] (upm V 375 (Int.toNat (w32 (x1 + x2))) 0) Q)))) : Wf K d mX12_standsAsAlways 2 [some (vR 369), some (vI x1), some (vI x2)] [] V Q := by
  refine wp_iload_n dX12_standsAsAlways_2 rfl rfl ?_
  refine wp_sipush dX12_standsAsAlways_3 (by decide) ?_
  refine wp_icmp_ge (tgt := 24) dX12_standsAsAlways_6 rfl (fun c1 => ?_) (fun c1 => ?_)
  ·
    refine wp_aload_n dX12_standsAsAlways_24 rfl rfl ?_
    refine wp_getR (b := 375) dX12_standsAsAlways_25 fX12_75 rfl sh369 (by decide) rfl ?_
    refine wp_iload_n dX12_standsAsAlways_28 rfl rfl ?_
    refine wp_iconst dX12_standsAsAlways_29 (by decide) ?_
    refine wp_iadd dX12_standsAsAlways_30 ?_
    refine wp_iconst dX12_standsAsAlways_31 (by decide) ?_
    refine wp_iast dX12_standsAsAlways_32 sh375 (h.1 c1).1 ?_
    exact wp_return dX12_standsAsAlways_33 rfl ⟨rfl, rfl⟩ ⟨rfl, (h.1 c1).2⟩
  ·
    refine wp_aload_n dX12_standsAsAlways_9 rfl rfl ?_
    refine wp_getR (b := 375) dX12_standsAsAlways_10 fX12_75 rfl sh369 (by decide) rfl ?_
    refine wp_iload_n dX12_standsAsAlways_13 rfl rfl ?_
    refine wp_iload_n dX12_standsAsAlways_14 rfl rfl ?_
    refine wp_iadd dX12_standsAsAlways_15 ?_
    refine wp_iconst dX12_standsAsAlways_16 (by decide) ?_
    refine wp_iast dX12_standsAsAlways_17 sh375 (h.2 c1).1 ?_
    refine wp_iinc dX12_standsAsAlways_18 rfl rfl ?_
    refine wp_goto (tgt := 2) dX12_standsAsAlways_21 rfl ?_
    exact (h.2 c1).2
set_option maxHeartbeats 4000000 in
set_option maxRecDepth 10000 in
theorem sX12_takeNumber {K : KK} {d : Nat} {V : Mem} {Q : Option AV → Mem → Prop} (x1 : Int) (x2 : Int) (h : ((¬ (V 369 8) = 0 → Wf K (d + 1) mX12_takeNumber 28 [some (vR 369), some (vI x1), some (vI x2)] [] V Q) ∧ ((V 369 8) = 0 → (((0 : Int) ≤ (V 369 7) ∧ (V 369 7) < (1002 : Nat)) ∧ (((V 371 (Int.toNat (V 369 7))) = 2 → Wf K (d + 1) mX12_takeNumber 28 [some (vR 369), some (vI x1), some (vI x2)] [] V Q) ∧ (¬ ((V 371 (Int.toNat (V 369 7))) = 2) → ((¬ (V 369 8) = 0 → Wf K (d + 1) mX12_takeNumber 70 [some (vR 369), none, none] [] V Q) ∧ ((V 369 8) = 0 → (((0 : Int) ≤ (V 369 7) ∧ (V 369 7) < (1002 : Nat)) ∧ Wf K (d + 1) mX12_takeNumber 70 [some (vR 369), none, none] [] (upm V 369 8 (w32 (1 + (w32 (16 * (V 372 (Int.toNat (V 369 7)))))))) Q))))))))) : Mf K (d + 1) mX12_takeNumber [vR 369, vI x1, vI x2] V Q := by
  refine Mt.of2 (L := [some (vR 369), some (vI x1), some (vI x2)]) pnX12 rfl rfl ?_
  refine wp_aload_n dX12_takeNumber_0 rfl rfl ?_
  refine wp_getI dX12_takeNumber_1 fX12_187 rfl sh369 (by decide) ?_
  refine wp_if_ne (tgt := 28) dX12_takeNumber_4 rfl (fun c1 => ?_) (fun c1 => ?_)
  ·
    exact (h.1 c1)
  ·
    refine wp_aload_n dX12_takeNumber_7 rfl rfl ?_
    refine wp_getR (b := 371) dX12_takeNumber_8 fX12_24 rfl sh369 (by decide) rfl ?_
    refine wp_aload_n dX12_takeNumber_11 rfl rfl ?_
    refine wp_getI dX12_takeNumber_12 fX12_184 rfl sh369 (by decide) ?_
    refine wp_iald dX12_takeNumber_15 sh371 (h.2 c1).1 ?_
    refine wp_iconst dX12_takeNumber_16 (by decide) ?_
    refine wp_icmp_eq (tgt := 28) dX12_takeNumber_17 rfl (fun c2 => ?_) (fun c2 => ?_)
    ·
      exact ((h.2 c1).2.1 c2)
    ·
      refine wp_aload_n dX12_takeNumber_20 rfl rfl ?_
      refine wp_iconst dX12_takeNumber_21 (by decide) ?_
      refine wp_inlV (d' := d) (S := []) (as := [vI 1]) dX12_takeNumber_22 lX12_193 (by omega) sh369 rfl rfl (Nat.le_of_ble_eq_true rfl) ⟨Nat.le_refl _, Nat.le_refl _⟩ (Mt.of2 (L := [some (vR 369), some (vI 1)]) pnX12 rfl rfl ?_)
      refine wp_aload_n dX12_wrong_0 rfl rfl ?_
      refine wp_getI dX12_wrong_1 fX12_187 rfl sh369 (by decide) ?_
      refine wp_if_ne (tgt := 25) dX12_wrong_4 rfl (fun c3 => ?_) (fun c3 => ?_)
      ·
        refine wp_return dX12_wrong_25 rfl ⟨rfl, rfl⟩ ?_
        show Wp _ _ _ _ _ 25 _ [] _ _ _ _ _
        refine wp_goto (tgt := 70) dX12_takeNumber_25 rfl ?_
        exact wp_loc (L2 := [some (vR 369), none, none]) ⟨rfl, trivial⟩ (((h.2 c1).2.2 c2).1 c3)
      ·
        refine wp_aload_n dX12_wrong_7 rfl rfl ?_
        refine wp_iload_n dX12_wrong_8 rfl rfl ?_
        refine wp_bipush dX12_wrong_9 (by decide) ?_
        refine wp_aload_n dX12_wrong_11 rfl rfl ?_
        refine wp_getR (b := 372) dX12_wrong_12 fX12_27 rfl sh369 (by decide) rfl ?_
        refine wp_aload_n dX12_wrong_15 rfl rfl ?_
        refine wp_getI dX12_wrong_16 fX12_184 rfl sh369 (by decide) ?_
        refine wp_iald dX12_wrong_19 sh372 (((h.2 c1).2.2 c2).2 c3).1 ?_
        refine wp_imul dX12_wrong_20 ?_
        refine wp_iadd dX12_wrong_21 ?_
        refine wp_putI dX12_wrong_22 fwX12_187 rfl sh369 (by decide) ?_
        refine wp_return dX12_wrong_25 rfl ⟨rfl, rfl⟩ ?_
        show Wp _ _ _ _ _ 25 _ [] _ _ _ _ _
        refine wp_goto (tgt := 70) dX12_takeNumber_25 rfl ?_
        exact wp_loc (L2 := [some (vR 369), none, none]) ⟨rfl, trivial⟩ (((h.2 c1).2.2 c2).2 c3).2
set_option maxHeartbeats 4000000 in
set_option maxRecDepth 10000 in
theorem sX12_takeNumber_28 {K : KK} {d : Nat} {V : Mem} {Q : Option AV → Mem → Prop} (x1 : Int) (x2 : Int) (h : ((¬ (V 369 8) = 0 → Wf K (d + 1) mX12_takeNumber 70 [some (vR 369), none, none] [] V Q) ∧ ((V 369 8) = 0 → (((0 : Int) ≤ (V 369 7) ∧ (V 369 7) < (1002 : Nat)) ∧ (((b_lcmp (V 373 (Int.toNat (V 369 7))) x1) < 0 → Wf K (d + 1) mX12_takeNumber 65 [some (vR 369), none, none] [] V Q) ∧ (¬ ((b_lcmp (V 373 (Int.toNat (V 369 7))) x1) < 0) → (((0 : Int) ≤ (V 369 7) ∧ (V 369 7) < (1002 : Nat)) ∧ (((b_lcmp (V 373 (Int.toNat (V 369 7))) x2) ≤ 0 → Wf K (d + 1) mX12_takeNumber 70 [some (vR 369), none, none] [] V Q) ∧ (¬ ((b_lcmp (V 373 (Int.toNat (V 369 7))) x2) ≤ 0) → Wf K (d + 1) mX12_takeNumber 65 [some (vR 369), none, none] [] V Q))))))))) : Wf K (d + 1) mX12_takeNumber 28 [some (vR 369), some (vI x1), some (vI x2)] [] V Q := by
  refine wp_aload_n dX12_takeNumber_28 rfl rfl ?_
  refine wp_getI dX12_takeNumber_29 fX12_187 rfl sh369 (by decide) ?_
  refine wp_if_ne (tgt := 70) dX12_takeNumber_32 rfl (fun c1 => ?_) (fun c1 => ?_)
  ·
    exact wp_loc (L2 := [some (vR 369), none, none]) ⟨rfl, trivial⟩ (h.1 c1)
  ·
    refine wp_aload_n dX12_takeNumber_35 rfl rfl ?_
    refine wp_getR (b := 373) dX12_takeNumber_36 fX12_30 rfl sh369 (by decide) rfl ?_
    refine wp_aload_n dX12_takeNumber_39 rfl rfl ?_
    refine wp_getI dX12_takeNumber_40 fX12_184 rfl sh369 (by decide) ?_
    refine wp_lald dX12_takeNumber_43 sh373 (h.2 c1).1 ?_
    refine wp_iload_n dX12_takeNumber_44 rfl rfl ?_
    refine wp_i2l dX12_takeNumber_45 ?_
    refine wp_lcmp dX12_takeNumber_46 ?_
    refine wp_if_lt (tgt := 65) dX12_takeNumber_47 rfl (fun c2 => ?_) (fun c2 => ?_)
    ·
      exact wp_loc (L2 := [some (vR 369), none, none]) ⟨rfl, trivial⟩ ((h.2 c1).2.1 c2)
    ·
      refine wp_aload_n dX12_takeNumber_50 rfl rfl ?_
      refine wp_getR (b := 373) dX12_takeNumber_51 fX12_30 rfl sh369 (by decide) rfl ?_
      refine wp_aload_n dX12_takeNumber_54 rfl rfl ?_
      refine wp_getI dX12_takeNumber_55 fX12_184 rfl sh369 (by decide) ?_
      refine wp_lald dX12_takeNumber_58 sh373 ((h.2 c1).2.2 c2).1 ?_
      refine wp_iload_n dX12_takeNumber_59 rfl rfl ?_
      refine wp_i2l dX12_takeNumber_60 ?_
      refine wp_lcmp dX12_takeNumber_61 ?_
      refine wp_if_le (tgt := 70) dX12_takeNumber_62 rfl (fun c3 => ?_) (fun c3 => ?_)
      ·
        exact wp_loc (L2 := [some (vR 369), none, none]) ⟨rfl, trivial⟩ (((h.2 c1).2.2 c2).2.1 c3)
      ·
        exact wp_loc (L2 := [some (vR 369), none, none]) ⟨rfl, trivial⟩ (((h.2 c1).2.2 c2).2.2 c3)
set_option maxHeartbeats 4000000 in
set_option maxRecDepth 10000 in
theorem sX12_takeNumber_70 {K : KK} {d : Nat} {V : Mem} {Q : Option AV → Mem → Prop}  (h : (((V 369 8) ≤ 0 → (((0 : Int) ≤ (w32 (((upm V 369 7 (w32 ((V 369 7) + 1))) 369 7) - 1)) ∧ (w32 (((upm V 369 7 (w32 ((V 369 7) + 1))) 369 7) - 1)) < (1002 : Nat)) ∧ Q (some (vI (w32 ((upm V 369 7 (w32 ((V 369 7) + 1))) 373 (Int.toNat (w32 (((upm V 369 7 (w32 ((V 369 7) + 1))) 369 7) - 1))))))) (upm V 369 7 (w32 ((V 369 7) + 1))))) ∧ (¬ ((V 369 8) ≤ 0) → Q (some (vI 0)) V))) : Wf K (d + 1) mX12_takeNumber 70 [some (vR 369), none, none] [] V Q := by
  refine wp_aload_n dX12_takeNumber_70 rfl rfl ?_
  refine wp_getI dX12_takeNumber_71 fX12_187 rfl sh369 (by decide) ?_
  refine wp_if_le (tgt := 79) dX12_takeNumber_74 rfl (fun c1 => ?_) (fun c1 => ?_)
  ·
    refine wp_aload_n dX12_takeNumber_79 rfl rfl ?_
    refine wp_dup dX12_takeNumber_80 rfl ?_
    refine wp_getI dX12_takeNumber_81 fX12_184 rfl sh369 (by decide) ?_
    refine wp_iconst dX12_takeNumber_84 (by decide) ?_
    refine wp_iadd dX12_takeNumber_85 ?_
    refine wp_putI dX12_takeNumber_86 fwX12_184 rfl sh369 (by decide) ?_
    refine wp_aload_n dX12_takeNumber_89 rfl rfl ?_
    refine wp_getR (b := 373) dX12_takeNumber_90 fX12_30 rfl sh369 (by decide) rfl ?_
    refine wp_aload_n dX12_takeNumber_93 rfl rfl ?_
    refine wp_getI dX12_takeNumber_94 fX12_184 rfl sh369 (by decide) ?_
    refine wp_iconst dX12_takeNumber_97 (by decide) ?_
    refine wp_isub dX12_takeNumber_98 ?_
    refine wp_lald dX12_takeNumber_99 sh373 (h.1 c1).1 ?_
    refine wp_l2i dX12_takeNumber_100 ?_
    exact wp_ireturn dX12_takeNumber_101 rfl ⟨rfl, rfl⟩ ⟨rfl, (h.1 c1).2⟩
  ·
    refine wp_iconst dX12_takeNumber_77 (by decide) ?_
    exact wp_ireturn dX12_takeNumber_78 rfl ⟨rfl, rfl⟩ ⟨rfl, (h.2 c1)⟩
set_option maxHeartbeats 4000000 in
set_option maxRecDepth 10000 in
theorem sX12_takeNumber_65 {K : KK} {d : Nat} {V : Mem} {Q : Option AV → Mem → Prop}  (h : ((¬ (V 369 8) = 0 → Wf K (d + 1) mX12_takeNumber 70 [some (vR 369), none, none] [] V Q) ∧ ((V 369 8) = 0 → (((0 : Int) ≤ (V 369 7) ∧ (V 369 7) < (1002 : Nat)) ∧ Wf K (d + 1) mX12_takeNumber 70 [some (vR 369), none, none] [] (upm V 369 8 (w32 (4 + (w32 (16 * (V 372 (Int.toNat (V 369 7)))))))) Q)))) : Wf K (d + 1) mX12_takeNumber 65 [some (vR 369), none, none] [] V Q := by
  refine wp_aload_n dX12_takeNumber_65 rfl rfl ?_
  refine wp_iconst dX12_takeNumber_66 (by decide) ?_
  refine wp_inlV (d' := d) (S := []) (as := [vI 4]) dX12_takeNumber_67 lX12_193 (by omega) sh369 rfl rfl (Nat.le_of_ble_eq_true rfl) ⟨Nat.le_refl _, Nat.le_refl _⟩ (Mt.of2 (L := [some (vR 369), some (vI 4)]) pnX12 rfl rfl ?_)
  refine wp_aload_n dX12_wrong_0 rfl rfl ?_
  refine wp_getI dX12_wrong_1 fX12_187 rfl sh369 (by decide) ?_
  refine wp_if_ne (tgt := 25) dX12_wrong_4 rfl (fun c1 => ?_) (fun c1 => ?_)
  ·
    refine wp_return dX12_wrong_25 rfl ⟨rfl, rfl⟩ ?_
    show Wp _ _ _ _ _ 70 _ [] _ _ _ _ _
    exact (h.1 c1)
  ·
    refine wp_aload_n dX12_wrong_7 rfl rfl ?_
    refine wp_iload_n dX12_wrong_8 rfl rfl ?_
    refine wp_bipush dX12_wrong_9 (by decide) ?_
    refine wp_aload_n dX12_wrong_11 rfl rfl ?_
    refine wp_getR (b := 372) dX12_wrong_12 fX12_27 rfl sh369 (by decide) rfl ?_
    refine wp_aload_n dX12_wrong_15 rfl rfl ?_
    refine wp_getI dX12_wrong_16 fX12_184 rfl sh369 (by decide) ?_
    refine wp_iald dX12_wrong_19 sh372 (h.2 c1).1 ?_
    refine wp_imul dX12_wrong_20 ?_
    refine wp_iadd dX12_wrong_21 ?_
    refine wp_putI dX12_wrong_22 fwX12_187 rfl sh369 (by decide) ?_
    refine wp_return dX12_wrong_25 rfl ⟨rfl, rfl⟩ ?_
    show Wp _ _ _ _ _ 70 _ [] _ _ _ _ _
    exact (h.2 c1).2
set_option maxHeartbeats 4000000 in
set_option maxRecDepth 10000 in
theorem sX12_wordHere {K : KK} {d : Nat} {V : Mem} {Q : Option AV → Mem → Prop} (x1 : Int) (x2 : Int) (h : Wf K (d + 1) mX12_wordHere 5 [some (vR 369), some (vI x1), some (vI x2), some (vI (-1)), some (vI 0)] [] V Q) : Mf K (d + 1) mX12_wordHere [vR 369, vI x1, vI x2] V Q := by
  refine Mt.of2 (L := [some (vR 369), some (vI x1), some (vI x2), none, none]) pnX12 rfl rfl ?_
  refine wp_iconst dX12_wordHere_0 (by decide) ?_
  refine wp_istore_n dX12_wordHere_1 rfl (by decide) rfl ?_
  refine wp_iconst dX12_wordHere_2 (by decide) ?_
  refine wp_istore dX12_wordHere_3 (by decide) rfl ?_
  exact h
set_option maxHeartbeats 4000000 in
set_option maxRecDepth 10000 in
theorem sX12_wordHere_5 {K : KK} {d : Nat} {V : Mem} {Q : Option AV → Mem → Prop} (x1 : Int) (x2 : Int) (x3 : Int) (x4 : Int) (h : ((x2 ≤ x4 → Q (some (vI x3)) V) ∧ (¬ (x2 ≤ x4) → Mf K d mX12_isWord [vR 369, vI (w32 (x1 + x4))] V (fun r V2 => ∃ z2, r = some (vI z2) ∧ ((z2 = 0 → Wf K (d + 1) mX12_wordHere 5 [some (vR 369), some (vI x1), some (vI x2), some (vI x3), some (vI (w32 (x4 + 1)))] [] V2 Q) ∧ (¬ (z2 = 0) → Wf K (d + 1) mX12_wordHere 5 [some (vR 369), some (vI x1), some (vI x2), some (vI x4), some (vI (w32 (x4 + 1)))] [] V2 Q)))))) : Wf K (d + 1) mX12_wordHere 5 [some (vR 369), some (vI x1), some (vI x2), some (vI x3), some (vI x4)] [] V Q := by
  refine wp_iload dX12_wordHere_5 rfl ?_
  refine wp_iload_n dX12_wordHere_7 rfl rfl ?_
  refine wp_icmp_ge (tgt := 35) dX12_wordHere_8 rfl (fun c1 => ?_) (fun c1 => ?_)
  ·
    refine wp_iload_n dX12_wordHere_35 rfl rfl ?_
    exact wp_ireturn dX12_wordHere_36 rfl ⟨rfl, rfl⟩ ⟨rfl, (h.1 c1)⟩
  ·
    refine wp_aload_n dX12_wordHere_11 rfl rfl ?_
    refine wp_iload_n dX12_wordHere_12 rfl rfl ?_
    refine wp_iload dX12_wordHere_13 rfl ?_
    refine wp_iadd dX12_wordHere_15 ?_
    refine wp_callV (S := []) (as := [vI (w32 (x1 + x4))]) dX12_wordHere_16 lX12_196 ((h.2 c1)) (by omega) sh369 rfl rfl (Nat.le_of_ble_eq_true rfl) ⟨Nat.le_refl _, Nat.le_refl _⟩ ?_
    rintro _ _ V2 ⟨rfl, z2, rfl, q2⟩
    show Wp _ _ _ _ _ 19 _ [vI z2] _ _ _ _ _
    refine wp_if_eq (tgt := 27) dX12_wordHere_19 rfl (fun c3 => ?_) (fun c3 => ?_)
    ·
      refine wp_iload_n dX12_wordHere_27 rfl rfl ?_
      refine wp_istore_n dX12_wordHere_28 rfl (by decide) rfl ?_
      refine wp_iinc dX12_wordHere_29 rfl rfl ?_
      refine wp_goto (tgt := 5) dX12_wordHere_32 rfl ?_
      exact (q2.1 c3)
    ·
      refine wp_iload dX12_wordHere_22 rfl ?_
      refine wp_goto (tgt := 28) dX12_wordHere_24 rfl ?_
      refine wp_istore_n dX12_wordHere_28 rfl (by decide) rfl ?_
      refine wp_iinc dX12_wordHere_29 rfl rfl ?_
      refine wp_goto (tgt := 5) dX12_wordHere_32 rfl ?_
      exact (q2.2 c3)
set_option maxHeartbeats 4000000 in
set_option maxRecDepth 10000 in
theorem sX12_takeOne {K : KK} {d : Nat} {V : Mem} {Q : Option AV → Mem → Prop} (x1 : Int) (x2 : Int) (h : (((V 369 8) ≤ 0 → Mf K d mX12_wordHere [vR 369, vI x1, vI x2] V (fun r V2 => ∃ z2, r = some (vI z2) ∧ Wf K (d + 1) mX12_takeOne 17 [some (vR 369), none, none, none] [vI z2] V2 Q)) ∧ (¬ ((V 369 8) ≤ 0) → Wf K (d + 1) mX12_takeOne 17 [some (vR 369), none, none, none] [vI (-1)] V Q))) : Mf K (d + 1) mX12_takeOne [vR 369, vI x1, vI x2] V Q := by
  refine Mt.of2 (L := [some (vR 369), some (vI x1), some (vI x2), none]) pnX12 rfl rfl ?_
  refine wp_aload_n dX12_takeOne_0 rfl rfl ?_
  refine wp_getI dX12_takeOne_1 fX12_187 rfl sh369 (by decide) ?_
  refine wp_if_le (tgt := 11) dX12_takeOne_4 rfl (fun c1 => ?_) (fun c1 => ?_)
  ·
    refine wp_aload_n dX12_takeOne_11 rfl rfl ?_
    refine wp_iload_n dX12_takeOne_12 rfl rfl ?_
    refine wp_iload_n dX12_takeOne_13 rfl rfl ?_
    refine wp_callV (S := []) (as := [vI x1, vI x2]) dX12_takeOne_14 lX12_202 ((h.1 c1)) (by omega) sh369 rfl rfl (Nat.le_of_ble_eq_true rfl) ⟨Nat.le_refl _, Nat.le_refl _⟩ ?_
    rintro _ _ V2 ⟨rfl, z2, rfl, q2⟩
    show Wp _ _ _ _ _ 17 _ [vI z2] _ _ _ _ _
    exact wp_loc (L2 := [some (vR 369), none, none, none]) ⟨rfl, trivial⟩ q2
  ·
    refine wp_iconst dX12_takeOne_7 (by decide) ?_
    refine wp_goto (tgt := 17) dX12_takeOne_8 rfl ?_
    exact wp_loc (L2 := [some (vR 369), none, none, none]) ⟨rfl, trivial⟩ (h.2 c1)
set_option maxHeartbeats 4000000 in
set_option maxRecDepth 10000 in
theorem sX12_takeOne_17 {K : KK} {d : Nat} {V : Mem} {Q : Option AV → Mem → Prop} (s0 : Int) (h : ((¬ (V 369 8) = 0 → Wf K (d + 1) mX12_takeOne 34 [some (vR 369), none, none, some (vI s0)] [] V Q) ∧ ((V 369 8) = 0 → ((0 ≤ s0 → Wf K (d + 1) mX12_takeOne 34 [some (vR 369), none, none, some (vI s0)] [] V Q) ∧ (¬ (0 ≤ s0) → ((¬ (V 369 8) = 0 → Wf K (d + 1) mX12_takeOne 34 [some (vR 369), none, none, some (vI s0)] [] V Q) ∧ ((V 369 8) = 0 → (((0 : Int) ≤ (V 369 7) ∧ (V 369 7) < (1002 : Nat)) ∧ Wf K (d + 1) mX12_takeOne 34 [some (vR 369), none, none, some (vI s0)] [] (upm V 369 8 (w32 (1 + (w32 (16 * (V 372 (Int.toNat (V 369 7)))))))) Q)))))))) : Wf K (d + 1) mX12_takeOne 17 [some (vR 369), none, none, none] [vI s0] V Q := by
  refine wp_istore_n dX12_takeOne_17 rfl (by decide) rfl ?_
  refine wp_aload_n dX12_takeOne_18 rfl rfl ?_
  refine wp_getI dX12_takeOne_19 fX12_187 rfl sh369 (by decide) ?_
  refine wp_if_ne (tgt := 34) dX12_takeOne_22 rfl (fun c1 => ?_) (fun c1 => ?_)
  ·
    exact (h.1 c1)
  ·
    refine wp_iload_n dX12_takeOne_25 rfl rfl ?_
    refine wp_if_ge (tgt := 34) dX12_takeOne_26 rfl (fun c2 => ?_) (fun c2 => ?_)
    ·
      exact ((h.2 c1).1 c2)
    ·
      refine wp_aload_n dX12_takeOne_29 rfl rfl ?_
      refine wp_iconst dX12_takeOne_30 (by decide) ?_
      refine wp_inlV (d' := d) (S := []) (as := [vI 1]) dX12_takeOne_31 lX12_193 (by omega) sh369 rfl rfl (Nat.le_of_ble_eq_true rfl) ⟨Nat.le_refl _, Nat.le_refl _⟩ (Mt.of2 (L := [some (vR 369), some (vI 1)]) pnX12 rfl rfl ?_)
      refine wp_aload_n dX12_wrong_0 rfl rfl ?_
      refine wp_getI dX12_wrong_1 fX12_187 rfl sh369 (by decide) ?_
      refine wp_if_ne (tgt := 25) dX12_wrong_4 rfl (fun c3 => ?_) (fun c3 => ?_)
      ·
        refine wp_return dX12_wrong_25 rfl ⟨rfl, rfl⟩ ?_
        show Wp _ _ _ _ _ 34 _ [] _ _ _ _ _
        exact (((h.2 c1).2 c2).1 c3)
      ·
        refine wp_aload_n dX12_wrong_7 rfl rfl ?_
        refine wp_iload_n dX12_wrong_8 rfl rfl ?_
        refine wp_bipush dX12_wrong_9 (by decide) ?_
        refine wp_aload_n dX12_wrong_11 rfl rfl ?_
        refine wp_getR (b := 372) dX12_wrong_12 fX12_27 rfl sh369 (by decide) rfl ?_
        refine wp_aload_n dX12_wrong_15 rfl rfl ?_
        refine wp_getI dX12_wrong_16 fX12_184 rfl sh369 (by decide) ?_
        refine wp_iald dX12_wrong_19 sh372 (((h.2 c1).2 c2).2 c3).1 ?_
        refine wp_imul dX12_wrong_20 ?_
        refine wp_iadd dX12_wrong_21 ?_
        refine wp_putI dX12_wrong_22 fwX12_187 rfl sh369 (by decide) ?_
        refine wp_return dX12_wrong_25 rfl ⟨rfl, rfl⟩ ?_
        show Wp _ _ _ _ _ 34 _ [] _ _ _ _ _
        exact (((h.2 c1).2 c2).2 c3).2
set_option maxHeartbeats 4000000 in
set_option maxRecDepth 10000 in
theorem sX12_takeOne_34 {K : KK} {d : Nat} {V : Mem} {Q : Option AV → Mem → Prop} (x3 : Int) (h : (((V 369 8) ≤ 0 → Wf K (d + 1) mX12_takeOne 51 [some (vR 369), none, none, some (vI x3)] [vI 1, vI (V 369 7), vR 369] V Q) ∧ (¬ ((V 369 8) ≤ 0) → Wf K (d + 1) mX12_takeOne 51 [some (vR 369), none, none, some (vI x3)] [vI 0, vI (V 369 7), vR 369] V Q))) : Wf K (d + 1) mX12_takeOne 34 [some (vR 369), none, none, some (vI x3)] [] V Q := by
  refine wp_aload_n dX12_takeOne_34 rfl rfl ?_
  refine wp_dup dX12_takeOne_35 rfl ?_
  refine wp_getI dX12_takeOne_36 fX12_184 rfl sh369 (by decide) ?_
  refine wp_aload_n dX12_takeOne_39 rfl rfl ?_
  refine wp_getI dX12_takeOne_40 fX12_187 rfl sh369 (by decide) ?_
  refine wp_if_le (tgt := 50) dX12_takeOne_43 rfl (fun c1 => ?_) (fun c1 => ?_)
  ·
    refine wp_iconst dX12_takeOne_50 (by decide) ?_
    exact (h.1 c1)
  ·
    refine wp_iconst dX12_takeOne_46 (by decide) ?_
    refine wp_goto (tgt := 51) dX12_takeOne_47 rfl ?_
    exact (h.2 c1)
set_option maxHeartbeats 4000000 in
set_option maxRecDepth 10000 in
theorem sX12_takeOne_51 {K : KK} {d : Nat} {V : Mem} {Q : Option AV → Mem → Prop} (x3 : Int) (s1 : Int) (s2 : Int) (h : ((((upm V 369 7 (w32 (s1 + s2))) 369 8) ≤ 0 → Q (some (vI x3)) (upm V 369 7 (w32 (s1 + s2)))) ∧ (¬ (((upm V 369 7 (w32 (s1 + s2))) 369 8) ≤ 0) → Q (some (vI 0)) (upm V 369 7 (w32 (s1 + s2)))))) : Wf K (d + 1) mX12_takeOne 51 [some (vR 369), none, none, some (vI x3)] [vI s2, vI s1, vR 369] V Q := by
  refine wp_iadd dX12_takeOne_51 ?_
  refine wp_putI dX12_takeOne_52 fwX12_184 rfl sh369 (by decide) ?_
  refine wp_aload_n dX12_takeOne_55 rfl rfl ?_
  refine wp_getI dX12_takeOne_56 fX12_187 rfl sh369 (by decide) ?_
  refine wp_if_le (tgt := 66) dX12_takeOne_59 rfl (fun c1 => ?_) (fun c1 => ?_)
  ·
    refine wp_iload_n dX12_takeOne_66 rfl rfl ?_
    exact wp_ireturn dX12_takeOne_67 rfl ⟨rfl, rfl⟩ ⟨rfl, (h.1 c1)⟩
  ·
    refine wp_iconst dX12_takeOne_62 (by decide) ?_
    refine wp_goto (tgt := 67) dX12_takeOne_63 rfl ?_
    exact wp_ireturn dX12_takeOne_67 rfl ⟨rfl, rfl⟩ ⟨rfl, (h.2 c1)⟩
set_option maxHeartbeats 4000000 in
set_option maxRecDepth 10000 in
theorem sX12_isName {K : KK} {d : Nat} {V : Mem} {Q : Option AV → Mem → Prop}  (h : ((¬ (V 369 8) = 0 → Q (some (vI 0)) V) ∧ ((V 369 8) = 0 → (((0 : Int) ≤ (V 369 7) ∧ (V 369 7) < (1002 : Nat)) ∧ ((¬ (V 371 (Int.toNat (V 369 7))) = 1 → Q (some (vI 0)) V) ∧ ((V 371 (Int.toNat (V 369 7))) = 1 → Mf K d mX12_wordHere [vR 369, vI 0, vI 15] V (fun r V3 => ∃ z3, r = some (vI z3) ∧ ((0 ≤ z3 → Q (some (vI 0)) V3) ∧ (¬ (0 ≤ z3) → Q (some (vI 1)) V3))))))))) : Mf K (d + 1) mX12_isName [vR 369] V Q := by
  refine Mt.of2 (L := [some (vR 369)]) pnX12 rfl rfl ?_
  refine wp_aload_n dX12_isName_0 rfl rfl ?_
  refine wp_getI dX12_isName_1 fX12_187 rfl sh369 (by decide) ?_
  refine wp_if_ne (tgt := 34) dX12_isName_4 rfl (fun c1 => ?_) (fun c1 => ?_)
  ·
    refine wp_iconst dX12_isName_34 (by decide) ?_
    exact wp_zreturn dX12_isName_35 rfl ⟨rfl, rfl⟩ (by decide) ⟨rfl, (h.1 c1)⟩
  ·
    refine wp_aload_n dX12_isName_7 rfl rfl ?_
    refine wp_getR (b := 371) dX12_isName_8 fX12_24 rfl sh369 (by decide) rfl ?_
    refine wp_aload_n dX12_isName_11 rfl rfl ?_
    refine wp_getI dX12_isName_12 fX12_184 rfl sh369 (by decide) ?_
    refine wp_iald dX12_isName_15 sh371 (h.2 c1).1 ?_
    refine wp_iconst dX12_isName_16 (by decide) ?_
    refine wp_icmp_ne (tgt := 34) dX12_isName_17 rfl (fun c2 => ?_) (fun c2 => ?_)
    ·
      refine wp_iconst dX12_isName_34 (by decide) ?_
      exact wp_zreturn dX12_isName_35 rfl ⟨rfl, rfl⟩ (by decide) ⟨rfl, ((h.2 c1).2.1 c2)⟩
    ·
      refine wp_aload_n dX12_isName_20 rfl rfl ?_
      refine wp_iconst dX12_isName_21 (by decide) ?_
      refine wp_bipush dX12_isName_22 (by decide) ?_
      refine wp_callV (S := []) (as := [vI 0, vI 15]) dX12_isName_24 lX12_202 (((h.2 c1).2.2 c2)) (by omega) sh369 rfl rfl (Nat.le_of_ble_eq_true rfl) ⟨Nat.le_refl _, Nat.le_refl _⟩ ?_
      rintro _ _ V3 ⟨rfl, z3, rfl, q3⟩
      show Wp _ _ _ _ _ 27 _ [vI z3] _ _ _ _ _
      refine wp_if_ge (tgt := 34) dX12_isName_27 rfl (fun c4 => ?_) (fun c4 => ?_)
      ·
        refine wp_iconst dX12_isName_34 (by decide) ?_
        exact wp_zreturn dX12_isName_35 rfl ⟨rfl, rfl⟩ (by decide) ⟨rfl, (q3.1 c4)⟩
      ·
        refine wp_iconst dX12_isName_30 (by decide) ?_
        refine wp_goto (tgt := 35) dX12_isName_31 rfl ?_
        exact wp_zreturn dX12_isName_35 rfl ⟨rfl, rfl⟩ (by decide) ⟨rfl, (q3.2 c4)⟩
set_option maxHeartbeats 4000000 in
set_option maxRecDepth 10000 in
theorem sX12_nameAt {K : KK} {d : Nat} {V : Mem} {Q : Option AV → Mem → Prop} (x1 : Int) (x2 : Int) (h : Wf K d mX12_nameAt 5 [some (vR 369), some (vI x1), some (vI x2), some (vI (-1)), some (vI 0)] [] V Q) : Mf K d mX12_nameAt [vR 369, vI x1, vI x2] V Q := by
  refine Mt.of2 (L := [some (vR 369), some (vI x1), some (vI x2), none, none]) pnX12 rfl rfl ?_
  refine wp_iconst dX12_nameAt_0 (by decide) ?_
  refine wp_istore_n dX12_nameAt_1 rfl (by decide) rfl ?_
  refine wp_iconst dX12_nameAt_2 (by decide) ?_
  refine wp_istore dX12_nameAt_3 (by decide) rfl ?_
  exact h
set_option maxHeartbeats 4000000 in
set_option maxRecDepth 10000 in
theorem sX12_nameAt_5 {K : KK} {d : Nat} {V : Mem} {Q : Option AV → Mem → Prop} (x1 : Int) (x2 : Int) (x3 : Int) (x4 : Int) (h : ((x2 ≤ x4 → Q (some (vI x3)) V) ∧ (¬ (x2 ≤ x4) → (((0 : Int) ≤ (w32 (x1 + x4)) ∧ (w32 (x1 + x4)) < (16 : Nat)) ∧ (((0 : Int) ≤ (V 369 7) ∧ (V 369 7) < (1002 : Nat)) ∧ ((¬ (b_lcmp (V 377 (Int.toNat (w32 (x1 + x4)))) (V 373 (Int.toNat (V 369 7)))) = 0 → Wf K d mX12_nameAt 5 [some (vR 369), some (vI x1), some (vI x2), some (vI x3), some (vI (w32 (x4 + 1)))] [] V Q) ∧ ((b_lcmp (V 377 (Int.toNat (w32 (x1 + x4)))) (V 373 (Int.toNat (V 369 7)))) = 0 → Wf K d mX12_nameAt 5 [some (vR 369), some (vI x1), some (vI x2), some (vI x4), some (vI (w32 (x4 + 1)))] [] V Q))))))) : Wf K d mX12_nameAt 5 [some (vR 369), some (vI x1), some (vI x2), some (vI x3), some (vI x4)] [] V Q := by
  refine wp_iload dX12_nameAt_5 rfl ?_
  refine wp_iload_n dX12_nameAt_7 rfl rfl ?_
  refine wp_icmp_ge (tgt := 46) dX12_nameAt_8 rfl (fun c1 => ?_) (fun c1 => ?_)
  ·
    refine wp_iload_n dX12_nameAt_46 rfl rfl ?_
    exact wp_ireturn dX12_nameAt_47 rfl ⟨rfl, rfl⟩ ⟨rfl, (h.1 c1)⟩
  ·
    refine wp_aload_n dX12_nameAt_11 rfl rfl ?_
    refine wp_getR (b := 377) dX12_nameAt_12 fX12_81 rfl sh369 (by decide) rfl ?_
    refine wp_iload_n dX12_nameAt_15 rfl rfl ?_
    refine wp_iload dX12_nameAt_16 rfl ?_
    refine wp_iadd dX12_nameAt_18 ?_
    refine wp_lald dX12_nameAt_19 sh377 (h.2 c1).1 ?_
    refine wp_aload_n dX12_nameAt_20 rfl rfl ?_
    refine wp_getR (b := 373) dX12_nameAt_21 fX12_30 rfl sh369 (by decide) rfl ?_
    refine wp_aload_n dX12_nameAt_24 rfl rfl ?_
    refine wp_getI dX12_nameAt_25 fX12_184 rfl sh369 (by decide) ?_
    refine wp_lald dX12_nameAt_28 sh373 (h.2 c1).2.1 ?_
    refine wp_lcmp dX12_nameAt_29 ?_
    refine wp_if_ne (tgt := 38) dX12_nameAt_30 rfl (fun c2 => ?_) (fun c2 => ?_)
    ·
      refine wp_iload_n dX12_nameAt_38 rfl rfl ?_
      refine wp_istore_n dX12_nameAt_39 rfl (by decide) rfl ?_
      refine wp_iinc dX12_nameAt_40 rfl rfl ?_
      refine wp_goto (tgt := 5) dX12_nameAt_43 rfl ?_
      exact ((h.2 c1).2.2.1 c2)
    ·
      refine wp_iload dX12_nameAt_33 rfl ?_
      refine wp_goto (tgt := 39) dX12_nameAt_35 rfl ?_
      refine wp_istore_n dX12_nameAt_39 rfl (by decide) rfl ?_
      refine wp_iinc dX12_nameAt_40 rfl rfl ?_
      refine wp_goto (tgt := 5) dX12_nameAt_43 rfl ?_
      exact ((h.2 c1).2.2.2 c2)
set_option maxHeartbeats 4000000 in
set_option maxRecDepth 10000 in
theorem sX12_takeTold {K : KK} {d : Nat} {V : Mem} {Q : Option AV → Mem → Prop} (x1 : Int) (x2 : Int) (h : ((¬ (V 369 8) = 0 → Wf K (d + 1) mX12_takeTold 19 [some (vR 369), some (vI x1), some (vI x2), none] [] V Q) ∧ ((V 369 8) = 0 → Mf K d mX12_isName [vR 369] V (fun r V2 => ∃ z2, r = some (vI z2) ∧ ((¬ z2 = 0 → Wf K (d + 1) mX12_takeTold 19 [some (vR 369), some (vI x1), some (vI x2), none] [] V2 Q) ∧ (z2 = 0 → ((¬ (V2 369 8) = 0 → Wf K (d + 1) mX12_takeTold 19 [some (vR 369), some (vI x1), some (vI x2), none] [] V2 Q) ∧ ((V2 369 8) = 0 → (((0 : Int) ≤ (V2 369 7) ∧ (V2 369 7) < (1002 : Nat)) ∧ Wf K (d + 1) mX12_takeTold 19 [some (vR 369), some (vI x1), some (vI x2), none] [] (upm V2 369 8 (w32 (1 + (w32 (16 * (V2 372 (Int.toNat (V2 369 7)))))))) Q))))))))) : Mf K (d + 1) mX12_takeTold [vR 369, vI x1, vI x2] V Q := by
  refine Mt.of2 (L := [some (vR 369), some (vI x1), some (vI x2), none]) pnX12 rfl rfl ?_
  refine wp_aload_n dX12_takeTold_0 rfl rfl ?_
  refine wp_getI dX12_takeTold_1 fX12_187 rfl sh369 (by decide) ?_
  refine wp_if_ne (tgt := 19) dX12_takeTold_4 rfl (fun c1 => ?_) (fun c1 => ?_)
  ·
    exact (h.1 c1)
  ·
    refine wp_aload_n dX12_takeTold_7 rfl rfl ?_
    refine wp_callV (S := []) (as := []) dX12_takeTold_8 lX12_206 ((h.2 c1)) (by omega) sh369 rfl rfl (Nat.le_of_ble_eq_true rfl) ⟨Nat.le_refl _, Nat.le_refl _⟩ ?_
    rintro _ _ V2 ⟨rfl, z2, rfl, q2⟩
    show Wp _ _ _ _ _ 11 _ [vI z2] _ _ _ _ _
    refine wp_if_ne (tgt := 19) dX12_takeTold_11 rfl (fun c3 => ?_) (fun c3 => ?_)
    ·
      exact (q2.1 c3)
    ·
      refine wp_aload_n dX12_takeTold_14 rfl rfl ?_
      refine wp_iconst dX12_takeTold_15 (by decide) ?_
      refine wp_inlV (d' := d) (S := []) (as := [vI 1]) dX12_takeTold_16 lX12_193 (by omega) sh369 rfl rfl (Nat.le_of_ble_eq_true rfl) ⟨Nat.le_refl _, Nat.le_refl _⟩ (Mt.of2 (L := [some (vR 369), some (vI 1)]) pnX12 rfl rfl ?_)
      refine wp_aload_n dX12_wrong_0 rfl rfl ?_
      refine wp_getI dX12_wrong_1 fX12_187 rfl sh369 (by decide) ?_
      refine wp_if_ne (tgt := 25) dX12_wrong_4 rfl (fun c4 => ?_) (fun c4 => ?_)
      ·
        refine wp_return dX12_wrong_25 rfl ⟨rfl, rfl⟩ ?_
        show Wp _ _ _ _ _ 19 _ [] _ _ _ _ _
        exact ((q2.2 c3).1 c4)
      ·
        refine wp_aload_n dX12_wrong_7 rfl rfl ?_
        refine wp_iload_n dX12_wrong_8 rfl rfl ?_
        refine wp_bipush dX12_wrong_9 (by decide) ?_
        refine wp_aload_n dX12_wrong_11 rfl rfl ?_
        refine wp_getR (b := 372) dX12_wrong_12 fX12_27 rfl sh369 (by decide) rfl ?_
        refine wp_aload_n dX12_wrong_15 rfl rfl ?_
        refine wp_getI dX12_wrong_16 fX12_184 rfl sh369 (by decide) ?_
        refine wp_iald dX12_wrong_19 sh372 ((q2.2 c3).2 c4).1 ?_
        refine wp_imul dX12_wrong_20 ?_
        refine wp_iadd dX12_wrong_21 ?_
        refine wp_putI dX12_wrong_22 fwX12_187 rfl sh369 (by decide) ?_
        refine wp_return dX12_wrong_25 rfl ⟨rfl, rfl⟩ ?_
        show Wp _ _ _ _ _ 19 _ [] _ _ _ _ _
        exact ((q2.2 c3).2 c4).2
set_option maxHeartbeats 4000000 in
set_option maxRecDepth 10000 in
theorem sX12_takeTold_19 {K : KK} {d : Nat} {V : Mem} {Q : Option AV → Mem → Prop} (x1 : Int) (x2 : Int) (h : (((V 369 8) ≤ 0 → Mf K d mX12_nameAt [vR 369, vI x1, vI x2] V (fun r V2 => ∃ z2, r = some (vI z2) ∧ Wf K (d + 1) mX12_takeTold 36 [some (vR 369), none, none, none] [vI z2] V2 Q)) ∧ (¬ ((V 369 8) ≤ 0) → Wf K (d + 1) mX12_takeTold 36 [some (vR 369), none, none, none] [vI (-1)] V Q))) : Wf K (d + 1) mX12_takeTold 19 [some (vR 369), some (vI x1), some (vI x2), none] [] V Q := by
  refine wp_aload_n dX12_takeTold_19 rfl rfl ?_
  refine wp_getI dX12_takeTold_20 fX12_187 rfl sh369 (by decide) ?_
  refine wp_if_le (tgt := 30) dX12_takeTold_23 rfl (fun c1 => ?_) (fun c1 => ?_)
  ·
    refine wp_aload_n dX12_takeTold_30 rfl rfl ?_
    refine wp_iload_n dX12_takeTold_31 rfl rfl ?_
    refine wp_iload_n dX12_takeTold_32 rfl rfl ?_
    refine wp_callV (S := []) (as := [vI x1, vI x2]) dX12_takeTold_33 lX12_210 ((h.1 c1)) (by omega) sh369 rfl rfl (Nat.le_of_ble_eq_true rfl) ⟨Nat.le_refl _, Nat.le_refl _⟩ ?_
    rintro _ _ V2 ⟨rfl, z2, rfl, q2⟩
    show Wp _ _ _ _ _ 36 _ [vI z2] _ _ _ _ _
    exact wp_loc (L2 := [some (vR 369), none, none, none]) ⟨rfl, trivial⟩ q2
  ·
    refine wp_iconst dX12_takeTold_26 (by decide) ?_
    refine wp_goto (tgt := 36) dX12_takeTold_27 rfl ?_
    exact wp_loc (L2 := [some (vR 369), none, none, none]) ⟨rfl, trivial⟩ (h.2 c1)
set_option maxHeartbeats 4000000 in
set_option maxRecDepth 10000 in
theorem sX12_takeTold_36 {K : KK} {d : Nat} {V : Mem} {Q : Option AV → Mem → Prop} (s0 : Int) (h : ((¬ (V 369 8) = 0 → Wf K (d + 1) mX12_takeTold 53 [some (vR 369), none, none, some (vI s0)] [] V Q) ∧ ((V 369 8) = 0 → ((0 ≤ s0 → Wf K (d + 1) mX12_takeTold 53 [some (vR 369), none, none, some (vI s0)] [] V Q) ∧ (¬ (0 ≤ s0) → ((¬ (V 369 8) = 0 → Wf K (d + 1) mX12_takeTold 53 [some (vR 369), none, none, some (vI s0)] [] V Q) ∧ ((V 369 8) = 0 → (((0 : Int) ≤ (V 369 7) ∧ (V 369 7) < (1002 : Nat)) ∧ Wf K (d + 1) mX12_takeTold 53 [some (vR 369), none, none, some (vI s0)] [] (upm V 369 8 (w32 (2 + (w32 (16 * (V 372 (Int.toNat (V 369 7)))))))) Q)))))))) : Wf K (d + 1) mX12_takeTold 36 [some (vR 369), none, none, none] [vI s0] V Q := by
  refine wp_istore_n dX12_takeTold_36 rfl (by decide) rfl ?_
  refine wp_aload_n dX12_takeTold_37 rfl rfl ?_
  refine wp_getI dX12_takeTold_38 fX12_187 rfl sh369 (by decide) ?_
  refine wp_if_ne (tgt := 53) dX12_takeTold_41 rfl (fun c1 => ?_) (fun c1 => ?_)
  ·
    exact (h.1 c1)
  ·
    refine wp_iload_n dX12_takeTold_44 rfl rfl ?_
    refine wp_if_ge (tgt := 53) dX12_takeTold_45 rfl (fun c2 => ?_) (fun c2 => ?_)
    ·
      exact ((h.2 c1).1 c2)
    ·
      refine wp_aload_n dX12_takeTold_48 rfl rfl ?_
      refine wp_iconst dX12_takeTold_49 (by decide) ?_
      refine wp_inlV (d' := d) (S := []) (as := [vI 2]) dX12_takeTold_50 lX12_193 (by omega) sh369 rfl rfl (Nat.le_of_ble_eq_true rfl) ⟨Nat.le_refl _, Nat.le_refl _⟩ (Mt.of2 (L := [some (vR 369), some (vI 2)]) pnX12 rfl rfl ?_)
      refine wp_aload_n dX12_wrong_0 rfl rfl ?_
      refine wp_getI dX12_wrong_1 fX12_187 rfl sh369 (by decide) ?_
      refine wp_if_ne (tgt := 25) dX12_wrong_4 rfl (fun c3 => ?_) (fun c3 => ?_)
      ·
        refine wp_return dX12_wrong_25 rfl ⟨rfl, rfl⟩ ?_
        show Wp _ _ _ _ _ 53 _ [] _ _ _ _ _
        exact (((h.2 c1).2 c2).1 c3)
      ·
        refine wp_aload_n dX12_wrong_7 rfl rfl ?_
        refine wp_iload_n dX12_wrong_8 rfl rfl ?_
        refine wp_bipush dX12_wrong_9 (by decide) ?_
        refine wp_aload_n dX12_wrong_11 rfl rfl ?_
        refine wp_getR (b := 372) dX12_wrong_12 fX12_27 rfl sh369 (by decide) rfl ?_
        refine wp_aload_n dX12_wrong_15 rfl rfl ?_
        refine wp_getI dX12_wrong_16 fX12_184 rfl sh369 (by decide) ?_
        refine wp_iald dX12_wrong_19 sh372 (((h.2 c1).2 c2).2 c3).1 ?_
        refine wp_imul dX12_wrong_20 ?_
        refine wp_iadd dX12_wrong_21 ?_
        refine wp_putI dX12_wrong_22 fwX12_187 rfl sh369 (by decide) ?_
        refine wp_return dX12_wrong_25 rfl ⟨rfl, rfl⟩ ?_
        show Wp _ _ _ _ _ 53 _ [] _ _ _ _ _
        exact (((h.2 c1).2 c2).2 c3).2
set_option maxHeartbeats 4000000 in
set_option maxRecDepth 10000 in
theorem sX12_takeTold_53 {K : KK} {d : Nat} {V : Mem} {Q : Option AV → Mem → Prop} (x3 : Int) (h : (((V 369 8) ≤ 0 → Wf K (d + 1) mX12_takeTold 70 [some (vR 369), none, none, some (vI x3)] [vI 1, vI (V 369 7), vR 369] V Q) ∧ (¬ ((V 369 8) ≤ 0) → Wf K (d + 1) mX12_takeTold 70 [some (vR 369), none, none, some (vI x3)] [vI 0, vI (V 369 7), vR 369] V Q))) : Wf K (d + 1) mX12_takeTold 53 [some (vR 369), none, none, some (vI x3)] [] V Q := by
  refine wp_aload_n dX12_takeTold_53 rfl rfl ?_
  refine wp_dup dX12_takeTold_54 rfl ?_
  refine wp_getI dX12_takeTold_55 fX12_184 rfl sh369 (by decide) ?_
  refine wp_aload_n dX12_takeTold_58 rfl rfl ?_
  refine wp_getI dX12_takeTold_59 fX12_187 rfl sh369 (by decide) ?_
  refine wp_if_le (tgt := 69) dX12_takeTold_62 rfl (fun c1 => ?_) (fun c1 => ?_)
  ·
    refine wp_iconst dX12_takeTold_69 (by decide) ?_
    exact (h.1 c1)
  ·
    refine wp_iconst dX12_takeTold_65 (by decide) ?_
    refine wp_goto (tgt := 70) dX12_takeTold_66 rfl ?_
    exact (h.2 c1)
set_option maxHeartbeats 4000000 in
set_option maxRecDepth 10000 in
theorem sX12_takeTold_70 {K : KK} {d : Nat} {V : Mem} {Q : Option AV → Mem → Prop} (x3 : Int) (s1 : Int) (s2 : Int) (h : ((((upm V 369 7 (w32 (s1 + s2))) 369 8) ≤ 0 → Q (some (vI x3)) (upm V 369 7 (w32 (s1 + s2)))) ∧ (¬ (((upm V 369 7 (w32 (s1 + s2))) 369 8) ≤ 0) → Q (some (vI 0)) (upm V 369 7 (w32 (s1 + s2)))))) : Wf K (d + 1) mX12_takeTold 70 [some (vR 369), none, none, some (vI x3)] [vI s2, vI s1, vR 369] V Q := by
  refine wp_iadd dX12_takeTold_70 ?_
  refine wp_putI dX12_takeTold_71 fwX12_184 rfl sh369 (by decide) ?_
  refine wp_aload_n dX12_takeTold_74 rfl rfl ?_
  refine wp_getI dX12_takeTold_75 fX12_187 rfl sh369 (by decide) ?_
  refine wp_if_le (tgt := 85) dX12_takeTold_78 rfl (fun c1 => ?_) (fun c1 => ?_)
  ·
    refine wp_iload_n dX12_takeTold_85 rfl rfl ?_
    exact wp_ireturn dX12_takeTold_86 rfl ⟨rfl, rfl⟩ ⟨rfl, (h.1 c1)⟩
  ·
    refine wp_iconst dX12_takeTold_81 (by decide) ?_
    refine wp_goto (tgt := 86) dX12_takeTold_82 rfl ?_
    exact wp_ireturn dX12_takeTold_86 rfl ⟨rfl, rfl⟩ ⟨rfl, (h.2 c1)⟩
set_option maxHeartbeats 4000000 in
set_option maxRecDepth 10000 in
theorem sX12_index {K : KK} {d : Nat} {V : Mem} {Q : Option AV → Mem → Prop}  (h : Mf K d mX12_cutAll [vR 369] (upm V 369 0 0) (fun r V1 => r = none ∧ Mf K d mX12_standsAsAlways [vR 369, vI 140] (upm V1 369 12 0) (fun r V2 => r = none ∧ Wf K (d + 1) mX12_index 21 [some (vR 369), none] [] V2 Q))) : Mf K (d + 1) mX12_index [vR 369] V Q := by
  refine Mt.of2 (L := [some (vR 369), none]) pnX12 rfl rfl ?_
  refine wp_aload_n dX12_index_0 rfl rfl ?_
  refine wp_iconst dX12_index_1 (by decide) ?_
  refine wp_putI dX12_index_2 fwX12_1 rfl sh369 (by decide) ?_
  refine wp_aload_n dX12_index_5 rfl rfl ?_
  refine wp_callV (S := []) (as := []) dX12_index_6 lX12_213 (h) (by omega) sh369 rfl rfl (Nat.le_of_ble_eq_true rfl) ⟨Nat.le_refl _, Nat.le_refl _⟩ ?_
  rintro _ _ V1 ⟨rfl, rfl, q1⟩
  show Wp _ _ _ _ _ 9 _ [] _ _ _ _ _
  refine wp_aload_n dX12_index_9 rfl rfl ?_
  refine wp_iconst dX12_index_10 (by decide) ?_
  refine wp_putI dX12_index_11 fwX12_216 rfl sh369 (by decide) ?_
  refine wp_aload_n dX12_index_14 rfl rfl ?_
  refine wp_sipush dX12_index_15 (by decide) ?_
  refine wp_callV (S := []) (as := [vI 140]) dX12_index_18 lX12_154 (q1) (by omega) sh369 rfl rfl (Nat.le_of_ble_eq_true rfl) ⟨Nat.le_refl _, Nat.le_refl _⟩ ?_
  rintro _ _ V2 ⟨rfl, rfl, q2⟩
  show Wp _ _ _ _ _ 21 _ [] _ _ _ _ _
  exact q2
set_option maxHeartbeats 4000000 in
set_option maxRecDepth 10000 in
theorem sX12_index_21 {K : KK} {d : Nat} {V : Mem} {Q : Option AV → Mem → Prop}  (h : ((¬ (V 369 8) = 0 → (((V 369 8) ≤ 0 → Wf K (d + 1) mX12_index 67 [some (vR 369), some (vI 0)] [] V Q) ∧ (¬ ((V 369 8) ≤ 0) → Q (some (vI (V 369 8))) V))) ∧ ((V 369 8) = 0 → (((0 : Int) ≤ (V 369 7) ∧ (V 369 7) < (1002 : Nat)) ∧ (((V 371 (Int.toNat (V 369 7))) = 0 → (((V 369 8) ≤ 0 → Wf K (d + 1) mX12_index 67 [some (vR 369), some (vI 0)] [] V Q) ∧ (¬ ((V 369 8) ≤ 0) → Q (some (vI (V 369 8))) V))) ∧ (¬ ((V 371 (Int.toNat (V 369 7))) = 0) → Mf K d mX12_readLine [vR 369] V (fun r V5 => r = none ∧ Mf K d mX12_takeSign [vR 369, vI 59] V5 (fun r V6 => r = none ∧ Wf K (d + 1) mX12_index 21 [some (vR 369), none] [] V6 Q)))))))) : Wf K (d + 1) mX12_index 21 [some (vR 369), none] [] V Q := by
  refine wp_aload_n dX12_index_21 rfl rfl ?_
  refine wp_getI dX12_index_22 fX12_187 rfl sh369 (by decide) ?_
  refine wp_if_ne (tgt := 53) dX12_index_25 rfl (fun c1 => ?_) (fun c1 => ?_)
  ·
    refine wp_aload_n dX12_index_53 rfl rfl ?_
    refine wp_getI dX12_index_54 fX12_187 rfl sh369 (by decide) ?_
    refine wp_if_le (tgt := 65) dX12_index_57 rfl (fun c2 => ?_) (fun c2 => ?_)
    ·
      refine wp_iconst dX12_index_65 (by decide) ?_
      refine wp_istore_n dX12_index_66 rfl (by decide) rfl ?_
      exact ((h.1 c1).1 c2)
    ·
      refine wp_aload_n dX12_index_60 rfl rfl ?_
      refine wp_getI dX12_index_61 fX12_187 rfl sh369 (by decide) ?_
      exact wp_ireturn dX12_index_64 rfl ⟨rfl, rfl⟩ ⟨rfl, ((h.1 c1).2 c2)⟩
  ·
    refine wp_aload_n dX12_index_28 rfl rfl ?_
    refine wp_getR (b := 371) dX12_index_29 fX12_24 rfl sh369 (by decide) rfl ?_
    refine wp_aload_n dX12_index_32 rfl rfl ?_
    refine wp_getI dX12_index_33 fX12_184 rfl sh369 (by decide) ?_
    refine wp_iald dX12_index_36 sh371 (h.2 c1).1 ?_
    refine wp_if_eq (tgt := 53) dX12_index_37 rfl (fun c3 => ?_) (fun c3 => ?_)
    ·
      refine wp_aload_n dX12_index_53 rfl rfl ?_
      refine wp_getI dX12_index_54 fX12_187 rfl sh369 (by decide) ?_
      refine wp_if_le (tgt := 65) dX12_index_57 rfl (fun c4 => ?_) (fun c4 => ?_)
      ·
        refine wp_iconst dX12_index_65 (by decide) ?_
        refine wp_istore_n dX12_index_66 rfl (by decide) rfl ?_
        exact (((h.2 c1).2.1 c3).1 c4)
      ·
        refine wp_aload_n dX12_index_60 rfl rfl ?_
        refine wp_getI dX12_index_61 fX12_187 rfl sh369 (by decide) ?_
        exact wp_ireturn dX12_index_64 rfl ⟨rfl, rfl⟩ ⟨rfl, (((h.2 c1).2.1 c3).2 c4)⟩
    ·
      refine wp_aload_n dX12_index_40 rfl rfl ?_
      refine wp_callV (S := []) (as := []) dX12_index_41 lX12_219 (((h.2 c1).2.2 c3)) (by omega) sh369 rfl rfl (Nat.le_of_ble_eq_true rfl) ⟨Nat.le_refl _, Nat.le_refl _⟩ ?_
      rintro _ _ V5 ⟨rfl, rfl, q5⟩
      show Wp _ _ _ _ _ 44 _ [] _ _ _ _ _
      refine wp_aload_n dX12_index_44 rfl rfl ?_
      refine wp_bipush dX12_index_45 (by decide) ?_
      refine wp_callV (S := []) (as := [vI 59]) dX12_index_47 lX12_222 (q5) (by omega) sh369 rfl rfl (Nat.le_of_ble_eq_true rfl) ⟨Nat.le_refl _, Nat.le_refl _⟩ ?_
      rintro _ _ V6 ⟨rfl, rfl, q6⟩
      show Wp _ _ _ _ _ 50 _ [] _ _ _ _ _
      refine wp_goto (tgt := 21) dX12_index_50 rfl ?_
      exact q6
set_option maxHeartbeats 4000000 in
set_option maxRecDepth 10000 in
theorem sX12_index_67 {K : KK} {d : Nat} {V : Mem} {Q : Option AV → Mem → Prop} (x1 : Int) (h : ((140 ≤ x1 → Wf K (d + 1) mX12_index 98 [some (vR 369), some (vI 0)] [] V Q) ∧ (¬ (140 ≤ x1) → (((0 : Int) ≤ (w32 (140 + x1)) ∧ (w32 (140 + x1)) < (280 : Nat)) ∧ (((0 : Int) ≤ x1 ∧ x1 < (280 : Nat)) ∧ Wf K (d + 1) mX12_index 67 [some (vR 369), some (vI (w32 (x1 + 1)))] [] (upm V 375 (Int.toNat x1) (V 375 (Int.toNat (w32 (140 + x1))))) Q))))) : Wf K (d + 1) mX12_index 67 [some (vR 369), some (vI x1)] [] V Q := by
  refine wp_iload_n dX12_index_67 rfl rfl ?_
  refine wp_sipush dX12_index_68 (by decide) ?_
  refine wp_icmp_ge (tgt := 96) dX12_index_71 rfl (fun c1 => ?_) (fun c1 => ?_)
  ·
    refine wp_iconst dX12_index_96 (by decide) ?_
    refine wp_istore_n dX12_index_97 rfl (by decide) rfl ?_
    exact (h.1 c1)
  ·
    refine wp_aload_n dX12_index_74 rfl rfl ?_
    refine wp_getR (b := 375) dX12_index_75 fX12_75 rfl sh369 (by decide) rfl ?_
    refine wp_iload_n dX12_index_78 rfl rfl ?_
    refine wp_aload_n dX12_index_79 rfl rfl ?_
    refine wp_getR (b := 375) dX12_index_80 fX12_75 rfl sh369 (by decide) rfl ?_
    refine wp_sipush dX12_index_83 (by decide) ?_
    refine wp_iload_n dX12_index_86 rfl rfl ?_
    refine wp_iadd dX12_index_87 ?_
    refine wp_iald dX12_index_88 sh375 (h.2 c1).1 ?_
    refine wp_iast dX12_index_89 sh375 (h.2 c1).2.1 ?_
    refine wp_iinc dX12_index_90 rfl rfl ?_
    refine wp_goto (tgt := 67) dX12_index_93 rfl ?_
    exact (h.2 c1).2.2
set_option maxHeartbeats 4000000 in
set_option maxRecDepth 10000 in
theorem sX12_index_98 {K : KK} {d : Nat} {V : Mem} {Q : Option AV → Mem → Prop} (x1 : Int) (h : (((V 369 12) ≤ x1 → Wf K (d + 1) mX12_index 130 [some (vR 369), some (vI 0)] [] V Q) ∧ (¬ ((V 369 12) ≤ x1) → (((0 : Int) ≤ (w32 (1100 + x1)) ∧ (w32 (1100 + x1)) < (2200 : Nat)) ∧ (((0 : Int) ≤ x1 ∧ x1 < (2200 : Nat)) ∧ Wf K (d + 1) mX12_index 98 [some (vR 369), some (vI (w32 (x1 + 1)))] [] (upm V 376 (Int.toNat x1) (V 376 (Int.toNat (w32 (1100 + x1))))) Q))))) : Wf K (d + 1) mX12_index 98 [some (vR 369), some (vI x1)] [] V Q := by
  refine wp_iload_n dX12_index_98 rfl rfl ?_
  refine wp_aload_n dX12_index_99 rfl rfl ?_
  refine wp_getI dX12_index_100 fX12_216 rfl sh369 (by decide) ?_
  refine wp_icmp_ge (tgt := 128) dX12_index_103 rfl (fun c1 => ?_) (fun c1 => ?_)
  ·
    refine wp_iconst dX12_index_128 (by decide) ?_
    refine wp_istore_n dX12_index_129 rfl (by decide) rfl ?_
    exact (h.1 c1)
  ·
    refine wp_aload_n dX12_index_106 rfl rfl ?_
    refine wp_getR (b := 376) dX12_index_107 fX12_78 rfl sh369 (by decide) rfl ?_
    refine wp_iload_n dX12_index_110 rfl rfl ?_
    refine wp_aload_n dX12_index_111 rfl rfl ?_
    refine wp_getR (b := 376) dX12_index_112 fX12_78 rfl sh369 (by decide) rfl ?_
    refine wp_sipush dX12_index_115 (by decide) ?_
    refine wp_iload_n dX12_index_118 rfl rfl ?_
    refine wp_iadd dX12_index_119 ?_
    refine wp_iald dX12_index_120 sh376 (h.2 c1).1 ?_
    refine wp_iast dX12_index_121 sh376 (h.2 c1).2.1 ?_
    refine wp_iinc dX12_index_122 rfl rfl ?_
    refine wp_goto (tgt := 98) dX12_index_125 rfl ?_
    exact (h.2 c1).2.2
set_option maxHeartbeats 4000000 in
set_option maxRecDepth 10000 in
theorem sX12_index_130 {K : KK} {d : Nat} {V : Mem} {Q : Option AV → Mem → Prop} (x1 : Int) (h : ((8 ≤ x1 → Mf K d mX12_begins [vR 369] V (fun r V2 => r = none ∧ Q (some (vI 0)) V2)) ∧ (¬ (8 ≤ x1) → (((0 : Int) ≤ (w32 (8 + x1)) ∧ (w32 (8 + x1)) < (16 : Nat)) ∧ (((0 : Int) ≤ x1 ∧ x1 < (16 : Nat)) ∧ Wf K (d + 1) mX12_index 130 [some (vR 369), some (vI (w32 (x1 + 1)))] [] (upm V 377 (Int.toNat x1) (V 377 (Int.toNat (w32 (8 + x1))))) Q))))) : Wf K (d + 1) mX12_index 130 [some (vR 369), some (vI x1)] [] V Q := by
  refine wp_iload_n dX12_index_130 rfl rfl ?_
  refine wp_bipush dX12_index_131 (by decide) ?_
  refine wp_icmp_ge (tgt := 157) dX12_index_133 rfl (fun c1 => ?_) (fun c1 => ?_)
  ·
    refine wp_aload_n dX12_index_157 rfl rfl ?_
    refine wp_callV (S := []) (as := []) dX12_index_158 lX12_158 ((h.1 c1)) (by omega) sh369 rfl rfl (Nat.le_of_ble_eq_true rfl) ⟨Nat.le_refl _, Nat.le_refl _⟩ ?_
    rintro _ _ V2 ⟨rfl, rfl, q2⟩
    show Wp _ _ _ _ _ 161 _ [] _ _ _ _ _
    refine wp_iconst dX12_index_161 (by decide) ?_
    exact wp_ireturn dX12_index_162 rfl ⟨rfl, rfl⟩ ⟨rfl, q2⟩
  ·
    refine wp_aload_n dX12_index_136 rfl rfl ?_
    refine wp_getR (b := 377) dX12_index_137 fX12_81 rfl sh369 (by decide) rfl ?_
    refine wp_iload_n dX12_index_140 rfl rfl ?_
    refine wp_aload_n dX12_index_141 rfl rfl ?_
    refine wp_getR (b := 377) dX12_index_142 fX12_81 rfl sh369 (by decide) rfl ?_
    refine wp_bipush dX12_index_145 (by decide) ?_
    refine wp_iload_n dX12_index_147 rfl rfl ?_
    refine wp_iadd dX12_index_148 ?_
    refine wp_lald dX12_index_149 sh377 (h.2 c1).1 ?_
    refine wp_last dX12_index_150 sh377 (h.2 c1).2.1 ?_
    refine wp_iinc dX12_index_151 rfl rfl ?_
    refine wp_goto (tgt := 130) dX12_index_154 rfl ?_
    exact (h.2 c1).2.2
set_option maxHeartbeats 4000000 in
set_option maxRecDepth 10000 in
theorem sX12_read {K : KK} {d : Nat} {V : Mem} {Q : Option AV → Mem → Prop} (x1 : Int) (h : (((0 : Int) ≤ (w32 (140 + x1)) ∧ (w32 (140 + x1)) < (280 : Nat)) ∧ Q (some (vI (V 375 (Int.toNat (w32 (140 + x1)))))) V)) : Mf K d mX12_read [vR 369, vI x1] V Q := by
  refine Mt.of2 (L := [some (vR 369), some (vI x1)]) pnX12 rfl rfl ?_
  refine wp_aload_n dX12_read_0 rfl rfl ?_
  refine wp_getR (b := 375) dX12_read_1 fX12_75 rfl sh369 (by decide) rfl ?_
  refine wp_sipush dX12_read_4 (by decide) ?_
  refine wp_iload_n dX12_read_7 rfl rfl ?_
  refine wp_iadd dX12_read_8 ?_
  refine wp_iald dX12_read_9 sh375 h.1 ?_
  exact wp_ireturn dX12_read_10 rfl ⟨rfl, rfl⟩ ⟨rfl, h.2⟩
set_option maxHeartbeats 4000000 in
set_option maxRecDepth 10000 in
theorem sX12_readName {K : KK} {d : Nat} {V : Mem} {Q : Option AV → Mem → Prop} (x1 : Int) (x2 : Int) (h : ((¬ x2 = 4 → Mf K d mX12_isName [vR 369] (upm V 369 7 (w32 ((V 369 7) + 1))) (fun r V2 => ∃ z2, r = some (vI z2) ∧ ((¬ z2 = 0 → (((0 : Int) ≤ (w32 (140 + 0)) ∧ (w32 (140 + 0)) < (280 : Nat)) ∧ Mf K d mX12_nameAt [vR 369, vI 8, vI (V2 375 (Int.toNat (w32 (140 + 0))))] V2 (fun r V4 => ∃ z4, r = some (vI z4) ∧ ((0 ≤ z4 → Wf K (d + 1) mX12_readName 64 [some (vR 369), some (vI x1), some (vI x2)] [] V4 Q) ∧ (¬ (0 ≤ z4) → (((0 : Int) ≤ (w32 (140 + 1)) ∧ (w32 (140 + 1)) < (280 : Nat)) ∧ Mf K d mX12_nameAt [vR 369, vI 12, vI (V4 375 (Int.toNat (w32 (140 + 1))))] V4 (fun r V6 => ∃ z6, r = some (vI z6) ∧ ((z6 < 0 → Wf K (d + 1) mX12_readName 69 [some (vR 369), some (vI x1), some (vI x2)] [] V6 Q) ∧ (¬ (z6 < 0) → Wf K (d + 1) mX12_readName 64 [some (vR 369), some (vI x1), some (vI x2)] [] V6 Q))))))))) ∧ (z2 = 0 → ((¬ (V2 369 8) = 0 → Wf K (d + 1) mX12_readName 69 [some (vR 369), some (vI x1), some (vI x2)] [] V2 Q) ∧ ((V2 369 8) = 0 → (((0 : Int) ≤ (V2 369 7) ∧ (V2 369 7) < (1002 : Nat)) ∧ Wf K (d + 1) mX12_readName 69 [some (vR 369), some (vI x1), some (vI x2)] [] (upm V2 369 8 (w32 (1 + (w32 (16 * (V2 372 (Int.toNat (V2 369 7)))))))) Q))))))) ∧ (x2 = 4 → ((¬ (V 369 8) = 0 → Q none V) ∧ ((V 369 8) = 0 → (((0 : Int) ≤ (V 369 7) ∧ (V 369 7) < (1002 : Nat)) ∧ Q none (upm V 369 8 (w32 (5 + (w32 (16 * (V 372 (Int.toNat (V 369 7)))))))))))))) : Mf K (d + 1) mX12_readName [vR 369, vI x1, vI x2] V Q := by
  refine Mt.of2 (L := [some (vR 369), some (vI x1), some (vI x2)]) pnX12 rfl rfl ?_
  refine wp_iload_n dX12_readName_0 rfl rfl ?_
  refine wp_iconst dX12_readName_1 (by decide) ?_
  refine wp_icmp_ne (tgt := 11) dX12_readName_2 rfl (fun c1 => ?_) (fun c1 => ?_)
  ·
    refine wp_aload_n dX12_readName_11 rfl rfl ?_
    refine wp_dup dX12_readName_12 rfl ?_
    refine wp_getI dX12_readName_13 fX12_184 rfl sh369 (by decide) ?_
    refine wp_iconst dX12_readName_16 (by decide) ?_
    refine wp_iadd dX12_readName_17 ?_
    refine wp_putI dX12_readName_18 fwX12_184 rfl sh369 (by decide) ?_
    refine wp_aload_n dX12_readName_21 rfl rfl ?_
    refine wp_callV (S := []) (as := []) dX12_readName_22 lX12_206 ((h.1 c1)) (by omega) sh369 rfl rfl (Nat.le_of_ble_eq_true rfl) ⟨Nat.le_refl _, Nat.le_refl _⟩ ?_
    rintro _ _ V2 ⟨rfl, z2, rfl, q2⟩
    show Wp _ _ _ _ _ 25 _ [vI z2] _ _ _ _ _
    refine wp_if_ne (tgt := 36) dX12_readName_25 rfl (fun c3 => ?_) (fun c3 => ?_)
    ·
      refine wp_aload_n dX12_readName_36 rfl rfl ?_
      refine wp_bipush dX12_readName_37 (by decide) ?_
      refine wp_aload_n dX12_readName_39 rfl rfl ?_
      refine wp_iconst dX12_readName_40 (by decide) ?_
      refine wp_inlV (d' := d) (S := [vI 8, vR 369]) (as := [vI 0]) dX12_readName_41 lX12_225 (by omega) sh369 rfl rfl (Nat.le_of_ble_eq_true rfl) ⟨Nat.le_refl _, Nat.le_refl _⟩ (Mt.of2 (L := [some (vR 369), some (vI 0)]) pnX12 rfl rfl ?_)
      refine wp_aload_n dX12_read_0 rfl rfl ?_
      refine wp_getR (b := 375) dX12_read_1 fX12_75 rfl sh369 (by decide) rfl ?_
      refine wp_sipush dX12_read_4 (by decide) ?_
      refine wp_iload_n dX12_read_7 rfl rfl ?_
      refine wp_iadd dX12_read_8 ?_
      refine wp_iald dX12_read_9 sh375 (q2.1 c3).1 ?_
      refine wp_ireturn dX12_read_10 rfl ⟨rfl, rfl⟩ ?_
      show Wp _ _ _ _ _ 44 _ [vI (V2 375 (Int.toNat (w32 (140 + 0)))), vI 8, vR 369] _ _ _ _ _
      refine wp_callV (S := []) (as := [vI 8, vI (V2 375 (Int.toNat (w32 (140 + 0))))]) dX12_readName_44 lX12_210 ((q2.1 c3).2) (by omega) sh369 rfl rfl (Nat.le_of_ble_eq_true rfl) ⟨Nat.le_refl _, Nat.le_refl _⟩ ?_
      rintro _ _ V4 ⟨rfl, z4, rfl, q4⟩
      show Wp _ _ _ _ _ 47 _ [vI z4] _ _ _ _ _
      refine wp_if_ge (tgt := 64) dX12_readName_47 rfl (fun c5 => ?_) (fun c5 => ?_)
      ·
        exact (q4.1 c5)
      ·
        refine wp_aload_n dX12_readName_50 rfl rfl ?_
        refine wp_bipush dX12_readName_51 (by decide) ?_
        refine wp_aload_n dX12_readName_53 rfl rfl ?_
        refine wp_iconst dX12_readName_54 (by decide) ?_
        refine wp_inlV (d' := d) (S := [vI 12, vR 369]) (as := [vI 1]) dX12_readName_55 lX12_225 (by omega) sh369 rfl rfl (Nat.le_of_ble_eq_true rfl) ⟨Nat.le_refl _, Nat.le_refl _⟩ (Mt.of2 (L := [some (vR 369), some (vI 1)]) pnX12 rfl rfl ?_)
        refine wp_aload_n dX12_read_0 rfl rfl ?_
        refine wp_getR (b := 375) dX12_read_1 fX12_75 rfl sh369 (by decide) rfl ?_
        refine wp_sipush dX12_read_4 (by decide) ?_
        refine wp_iload_n dX12_read_7 rfl rfl ?_
        refine wp_iadd dX12_read_8 ?_
        refine wp_iald dX12_read_9 sh375 (q4.2 c5).1 ?_
        refine wp_ireturn dX12_read_10 rfl ⟨rfl, rfl⟩ ?_
        show Wp _ _ _ _ _ 58 _ [vI (V4 375 (Int.toNat (w32 (140 + 1)))), vI 12, vR 369] _ _ _ _ _
        refine wp_callV (S := []) (as := [vI 12, vI (V4 375 (Int.toNat (w32 (140 + 1))))]) dX12_readName_58 lX12_210 ((q4.2 c5).2) (by omega) sh369 rfl rfl (Nat.le_of_ble_eq_true rfl) ⟨Nat.le_refl _, Nat.le_refl _⟩ ?_
        rintro _ _ V6 ⟨rfl, z6, rfl, q6⟩
        show Wp _ _ _ _ _ 61 _ [vI z6] _ _ _ _ _
        refine wp_if_lt (tgt := 69) dX12_readName_61 rfl (fun c7 => ?_) (fun c7 => ?_)
        ·
          exact (q6.1 c7)
        ·
          exact (q6.2 c7)
    ·
      refine wp_aload_n dX12_readName_28 rfl rfl ?_
      refine wp_iconst dX12_readName_29 (by decide) ?_
      refine wp_inlV (d' := d) (S := []) (as := [vI 1]) dX12_readName_30 lX12_193 (by omega) sh369 rfl rfl (Nat.le_of_ble_eq_true rfl) ⟨Nat.le_refl _, Nat.le_refl _⟩ (Mt.of2 (L := [some (vR 369), some (vI 1)]) pnX12 rfl rfl ?_)
      refine wp_aload_n dX12_wrong_0 rfl rfl ?_
      refine wp_getI dX12_wrong_1 fX12_187 rfl sh369 (by decide) ?_
      refine wp_if_ne (tgt := 25) dX12_wrong_4 rfl (fun c8 => ?_) (fun c8 => ?_)
      ·
        refine wp_return dX12_wrong_25 rfl ⟨rfl, rfl⟩ ?_
        show Wp _ _ _ _ _ 33 _ [] _ _ _ _ _
        refine wp_goto (tgt := 69) dX12_readName_33 rfl ?_
        exact ((q2.2 c3).1 c8)
      ·
        refine wp_aload_n dX12_wrong_7 rfl rfl ?_
        refine wp_iload_n dX12_wrong_8 rfl rfl ?_
        refine wp_bipush dX12_wrong_9 (by decide) ?_
        refine wp_aload_n dX12_wrong_11 rfl rfl ?_
        refine wp_getR (b := 372) dX12_wrong_12 fX12_27 rfl sh369 (by decide) rfl ?_
        refine wp_aload_n dX12_wrong_15 rfl rfl ?_
        refine wp_getI dX12_wrong_16 fX12_184 rfl sh369 (by decide) ?_
        refine wp_iald dX12_wrong_19 sh372 ((q2.2 c3).2 c8).1 ?_
        refine wp_imul dX12_wrong_20 ?_
        refine wp_iadd dX12_wrong_21 ?_
        refine wp_putI dX12_wrong_22 fwX12_187 rfl sh369 (by decide) ?_
        refine wp_return dX12_wrong_25 rfl ⟨rfl, rfl⟩ ?_
        show Wp _ _ _ _ _ 33 _ [] _ _ _ _ _
        refine wp_goto (tgt := 69) dX12_readName_33 rfl ?_
        exact ((q2.2 c3).2 c8).2
  ·
    refine wp_aload_n dX12_readName_5 rfl rfl ?_
    refine wp_iconst dX12_readName_6 (by decide) ?_
    refine wp_inlV (d' := d) (S := []) (as := [vI 5]) dX12_readName_7 lX12_193 (by omega) sh369 rfl rfl (Nat.le_of_ble_eq_true rfl) ⟨Nat.le_refl _, Nat.le_refl _⟩ (Mt.of2 (L := [some (vR 369), some (vI 5)]) pnX12 rfl rfl ?_)
    refine wp_aload_n dX12_wrong_0 rfl rfl ?_
    refine wp_getI dX12_wrong_1 fX12_187 rfl sh369 (by decide) ?_
    refine wp_if_ne (tgt := 25) dX12_wrong_4 rfl (fun c9 => ?_) (fun c9 => ?_)
    ·
      refine wp_return dX12_wrong_25 rfl ⟨rfl, rfl⟩ ?_
      show Wp _ _ _ _ _ 10 _ [] _ _ _ _ _
      exact wp_return dX12_readName_10 rfl ⟨rfl, rfl⟩ ⟨rfl, ((h.2 c1).1 c9)⟩
    ·
      refine wp_aload_n dX12_wrong_7 rfl rfl ?_
      refine wp_iload_n dX12_wrong_8 rfl rfl ?_
      refine wp_bipush dX12_wrong_9 (by decide) ?_
      refine wp_aload_n dX12_wrong_11 rfl rfl ?_
      refine wp_getR (b := 372) dX12_wrong_12 fX12_27 rfl sh369 (by decide) rfl ?_
      refine wp_aload_n dX12_wrong_15 rfl rfl ?_
      refine wp_getI dX12_wrong_16 fX12_184 rfl sh369 (by decide) ?_
      refine wp_iald dX12_wrong_19 sh372 ((h.2 c1).2 c9).1 ?_
      refine wp_imul dX12_wrong_20 ?_
      refine wp_iadd dX12_wrong_21 ?_
      refine wp_putI dX12_wrong_22 fwX12_187 rfl sh369 (by decide) ?_
      refine wp_return dX12_wrong_25 rfl ⟨rfl, rfl⟩ ?_
      show Wp _ _ _ _ _ 10 _ [] _ _ _ _ _
      exact wp_return dX12_readName_10 rfl ⟨rfl, rfl⟩ ⟨rfl, ((h.2 c1).2 c9).2⟩
set_option maxHeartbeats 4000000 in
set_option maxRecDepth 10000 in
theorem sX12_readName_64 {K : KK} {d : Nat} {V : Mem} {Q : Option AV → Mem → Prop} (x1 : Int) (x2 : Int) (h : ((¬ (V 369 8) = 0 → Wf K (d + 1) mX12_readName 69 [some (vR 369), some (vI x1), some (vI x2)] [] V Q) ∧ ((V 369 8) = 0 → (((0 : Int) ≤ (V 369 7) ∧ (V 369 7) < (1002 : Nat)) ∧ Wf K (d + 1) mX12_readName 69 [some (vR 369), some (vI x1), some (vI x2)] [] (upm V 369 8 (w32 (3 + (w32 (16 * (V 372 (Int.toNat (V 369 7)))))))) Q)))) : Wf K (d + 1) mX12_readName 64 [some (vR 369), some (vI x1), some (vI x2)] [] V Q := by
  refine wp_aload_n dX12_readName_64 rfl rfl ?_
  refine wp_iconst dX12_readName_65 (by decide) ?_
  refine wp_inlV (d' := d) (S := []) (as := [vI 3]) dX12_readName_66 lX12_193 (by omega) sh369 rfl rfl (Nat.le_of_ble_eq_true rfl) ⟨Nat.le_refl _, Nat.le_refl _⟩ (Mt.of2 (L := [some (vR 369), some (vI 3)]) pnX12 rfl rfl ?_)
  refine wp_aload_n dX12_wrong_0 rfl rfl ?_
  refine wp_getI dX12_wrong_1 fX12_187 rfl sh369 (by decide) ?_
  refine wp_if_ne (tgt := 25) dX12_wrong_4 rfl (fun c1 => ?_) (fun c1 => ?_)
  ·
    refine wp_return dX12_wrong_25 rfl ⟨rfl, rfl⟩ ?_
    show Wp _ _ _ _ _ 69 _ [] _ _ _ _ _
    exact (h.1 c1)
  ·
    refine wp_aload_n dX12_wrong_7 rfl rfl ?_
    refine wp_iload_n dX12_wrong_8 rfl rfl ?_
    refine wp_bipush dX12_wrong_9 (by decide) ?_
    refine wp_aload_n dX12_wrong_11 rfl rfl ?_
    refine wp_getR (b := 372) dX12_wrong_12 fX12_27 rfl sh369 (by decide) rfl ?_
    refine wp_aload_n dX12_wrong_15 rfl rfl ?_
    refine wp_getI dX12_wrong_16 fX12_184 rfl sh369 (by decide) ?_
    refine wp_iald dX12_wrong_19 sh372 (h.2 c1).1 ?_
    refine wp_imul dX12_wrong_20 ?_
    refine wp_iadd dX12_wrong_21 ?_
    refine wp_putI dX12_wrong_22 fwX12_187 rfl sh369 (by decide) ?_
    refine wp_return dX12_wrong_25 rfl ⟨rfl, rfl⟩ ?_
    show Wp _ _ _ _ _ 69 _ [] _ _ _ _ _
    exact (h.2 c1).2
set_option maxHeartbeats 4000000 in
set_option maxRecDepth 10000 in
theorem sX12_readName_69 {K : KK} {d : Nat} {V : Mem} {Q : Option AV → Mem → Prop} (x1 : Int) (x2 : Int) (h : ((¬ (V 369 8) = 0 → Q none V) ∧ ((V 369 8) = 0 → (((0 : Int) ≤ (V 369 7) ∧ (V 369 7) < (1002 : Nat)) ∧ (((0 : Int) ≤ (w32 ((w32 (8 + x1)) + x2)) ∧ (w32 ((w32 (8 + x1)) + x2)) < (16 : Nat)) ∧ Q none (upm (upm V 377 (Int.toNat (w32 ((w32 (8 + x1)) + x2))) (V 373 (Int.toNat (V 369 7)))) 369 7 (w32 (((upm V 377 (Int.toNat (w32 ((w32 (8 + x1)) + x2))) (V 373 (Int.toNat (V 369 7)))) 369 7) + 1)))))))) : Wf K (d + 1) mX12_readName 69 [some (vR 369), some (vI x1), some (vI x2)] [] V Q := by
  refine wp_aload_n dX12_readName_69 rfl rfl ?_
  refine wp_getI dX12_readName_70 fX12_187 rfl sh369 (by decide) ?_
  refine wp_if_ne (tgt := 106) dX12_readName_73 rfl (fun c1 => ?_) (fun c1 => ?_)
  ·
    exact wp_return dX12_readName_106 rfl ⟨rfl, rfl⟩ ⟨rfl, (h.1 c1)⟩
  ·
    refine wp_aload_n dX12_readName_76 rfl rfl ?_
    refine wp_getR (b := 377) dX12_readName_77 fX12_81 rfl sh369 (by decide) rfl ?_
    refine wp_bipush dX12_readName_80 (by decide) ?_
    refine wp_iload_n dX12_readName_82 rfl rfl ?_
    refine wp_iadd dX12_readName_83 ?_
    refine wp_iload_n dX12_readName_84 rfl rfl ?_
    refine wp_iadd dX12_readName_85 ?_
    refine wp_aload_n dX12_readName_86 rfl rfl ?_
    refine wp_getR (b := 373) dX12_readName_87 fX12_30 rfl sh369 (by decide) rfl ?_
    refine wp_aload_n dX12_readName_90 rfl rfl ?_
    refine wp_getI dX12_readName_91 fX12_184 rfl sh369 (by decide) ?_
    refine wp_lald dX12_readName_94 sh373 (h.2 c1).1 ?_
    refine wp_last dX12_readName_95 sh377 (h.2 c1).2.1 ?_
    refine wp_aload_n dX12_readName_96 rfl rfl ?_
    refine wp_dup dX12_readName_97 rfl ?_
    refine wp_getI dX12_readName_98 fX12_184 rfl sh369 (by decide) ?_
    refine wp_iconst dX12_readName_101 (by decide) ?_
    refine wp_iadd dX12_readName_102 ?_
    refine wp_putI dX12_readName_103 fwX12_184 rfl sh369 (by decide) ?_
    exact wp_return dX12_readName_106 rfl ⟨rfl, rfl⟩ ⟨rfl, (h.2 c1).2.2⟩
set_option maxHeartbeats 4000000 in
set_option maxRecDepth 10000 in
theorem sX12_readLine {K : KK} {d : Nat} {V : Mem} {Q : Option AV → Mem → Prop}  (h : Mf K d mX12_isWord [vR 369, vI 0] V (fun r V1 => ∃ z1, r = some (vI z1) ∧ ((z1 = 0 → Mf K d mX12_isWord [vR 369, vI 1] V1 (fun r V3 => ∃ z3, r = some (vI z3) ∧ ((z3 = 0 → Mf K d mX12_isWord [vR 369, vI 2] V3 (fun r V5 => ∃ z5, r = some (vI z5) ∧ ((¬ z5 = 0 → (((0 : Int) ≤ (w32 (140 + 2)) ∧ (w32 (140 + 2)) < (280 : Nat)) ∧ (((V5 375 (Int.toNat (w32 (140 + 2)))) < 0 → Mf K d mX12_allOf [vR 369, vI 0] (upm (upm V5 369 7 (w32 ((V5 369 7) + 1))) 375 142 ((upm V5 369 7 (w32 ((V5 369 7) + 1))) 369 12)) (fun r V8 => r = none ∧ (((0 : Int) ≤ (w32 (1100 + (V8 369 12))) ∧ (w32 (1100 + (V8 369 12))) < (2200 : Nat)) ∧ Q none (upm (upm V8 376 (Int.toNat (w32 (1100 + (V8 369 12)))) (w32 (0 + (w32 (16 * 0))))) 369 12 (w32 (((upm V8 376 (Int.toNat (w32 (1100 + (V8 369 12)))) (w32 (0 + (w32 (16 * 0))))) 369 12) + 1)))))) ∧ (¬ ((V5 375 (Int.toNat (w32 (140 + 2)))) < 0) → ((¬ (V5 369 8) = 0 → Q none V5) ∧ ((V5 369 8) = 0 → (((0 : Int) ≤ (V5 369 7) ∧ (V5 369 7) < (1002 : Nat)) ∧ Q none (upm V5 369 8 (w32 (3 + (w32 (16 * (V5 372 (Int.toNat (V5 369 7))))))))))))))) ∧ (z5 = 0 → ((¬ (V5 369 8) = 0 → Q none V5) ∧ ((V5 369 8) = 0 → (((0 : Int) ≤ (V5 369 7) ∧ (V5 369 7) < (1002 : Nat)) ∧ Q none (upm V5 369 8 (w32 (1 + (w32 (16 * (V5 372 (Int.toNat (V5 369 7))))))))))))))) ∧ (¬ (z3 = 0) → Mf K d mX12_readBraid [vR 369] V3 (fun r V11 => r = none ∧ Q none V11))))) ∧ (¬ (z1 = 0) → Mf K d mX12_readRow [vR 369] V1 (fun r V12 => r = none ∧ Q none V12))))) : Mf K (d + 1) mX12_readLine [vR 369] V Q := by
  refine Mt.of2 (L := [some (vR 369)]) pnX12 rfl rfl ?_
  refine wp_aload_n dX12_readLine_0 rfl rfl ?_
  refine wp_iconst dX12_readLine_1 (by decide) ?_
  refine wp_callV (S := []) (as := [vI 0]) dX12_readLine_2 lX12_196 (h) (by omega) sh369 rfl rfl (Nat.le_of_ble_eq_true rfl) ⟨Nat.le_refl _, Nat.le_refl _⟩ ?_
  rintro _ _ V1 ⟨rfl, z1, rfl, q1⟩
  show Wp _ _ _ _ _ 5 _ [vI z1] _ _ _ _ _
  refine wp_if_eq (tgt := 15) dX12_readLine_5 rfl (fun c2 => ?_) (fun c2 => ?_)
  ·
    refine wp_aload_n dX12_readLine_15 rfl rfl ?_
    refine wp_iconst dX12_readLine_16 (by decide) ?_
    refine wp_callV (S := []) (as := [vI 1]) dX12_readLine_17 lX12_196 ((q1.1 c2)) (by omega) sh369 rfl rfl (Nat.le_of_ble_eq_true rfl) ⟨Nat.le_refl _, Nat.le_refl _⟩ ?_
    rintro _ _ V3 ⟨rfl, z3, rfl, q3⟩
    show Wp _ _ _ _ _ 20 _ [vI z3] _ _ _ _ _
    refine wp_if_eq (tgt := 30) dX12_readLine_20 rfl (fun c4 => ?_) (fun c4 => ?_)
    ·
      refine wp_aload_n dX12_readLine_30 rfl rfl ?_
      refine wp_iconst dX12_readLine_31 (by decide) ?_
      refine wp_callV (S := []) (as := [vI 2]) dX12_readLine_32 lX12_196 ((q3.1 c4)) (by omega) sh369 rfl rfl (Nat.le_of_ble_eq_true rfl) ⟨Nat.le_refl _, Nat.le_refl _⟩ ?_
      rintro _ _ V5 ⟨rfl, z5, rfl, q5⟩
      show Wp _ _ _ _ _ 35 _ [vI z5] _ _ _ _ _
      refine wp_if_ne (tgt := 46) dX12_readLine_35 rfl (fun c6 => ?_) (fun c6 => ?_)
      ·
        refine wp_aload_n dX12_readLine_46 rfl rfl ?_
        refine wp_iconst dX12_readLine_47 (by decide) ?_
        refine wp_inlV (d' := d) (S := []) (as := [vI 2]) dX12_readLine_48 lX12_225 (by omega) sh369 rfl rfl (Nat.le_of_ble_eq_true rfl) ⟨Nat.le_refl _, Nat.le_refl _⟩ (Mt.of2 (L := [some (vR 369), some (vI 2)]) pnX12 rfl rfl ?_)
        refine wp_aload_n dX12_read_0 rfl rfl ?_
        refine wp_getR (b := 375) dX12_read_1 fX12_75 rfl sh369 (by decide) rfl ?_
        refine wp_sipush dX12_read_4 (by decide) ?_
        refine wp_iload_n dX12_read_7 rfl rfl ?_
        refine wp_iadd dX12_read_8 ?_
        refine wp_iald dX12_read_9 sh375 (q5.1 c6).1 ?_
        refine wp_ireturn dX12_read_10 rfl ⟨rfl, rfl⟩ ?_
        show Wp _ _ _ _ _ 51 _ [vI (V5 375 (Int.toNat (w32 (140 + 2))))] _ _ _ _ _
        refine wp_if_lt (tgt := 62) dX12_readLine_51 rfl (fun c7 => ?_) (fun c7 => ?_)
        ·
          refine wp_aload_n dX12_readLine_62 rfl rfl ?_
          refine wp_dup dX12_readLine_63 rfl ?_
          refine wp_getI dX12_readLine_64 fX12_184 rfl sh369 (by decide) ?_
          refine wp_iconst dX12_readLine_67 (by decide) ?_
          refine wp_iadd dX12_readLine_68 ?_
          refine wp_putI dX12_readLine_69 fwX12_184 rfl sh369 (by decide) ?_
          refine wp_aload_n dX12_readLine_72 rfl rfl ?_
          refine wp_getR (b := 375) dX12_readLine_73 fX12_75 rfl sh369 (by decide) rfl ?_
          refine wp_sipush dX12_readLine_76 (by decide) ?_
          refine wp_aload_n dX12_readLine_79 rfl rfl ?_
          refine wp_getI dX12_readLine_80 fX12_216 rfl sh369 (by decide) ?_
          refine wp_iast dX12_readLine_83 sh375 (by decide) ?_
          refine wp_aload_n dX12_readLine_84 rfl rfl ?_
          refine wp_iconst dX12_readLine_85 (by decide) ?_
          refine wp_callV (S := []) (as := [vI 0]) dX12_readLine_86 lX12_234 (((q5.1 c6).2.1 c7)) (by omega) sh369 rfl rfl (Nat.le_of_ble_eq_true rfl) ⟨Nat.le_refl _, Nat.le_refl _⟩ ?_
          rintro _ _ V8 ⟨rfl, rfl, q8⟩
          show Wp _ _ _ _ _ 89 _ [] _ _ _ _ _
          refine wp_aload_n dX12_readLine_89 rfl rfl ?_
          refine wp_iconst dX12_readLine_90 (by decide) ?_
          refine wp_iconst dX12_readLine_91 (by decide) ?_
          refine wp_inlV (d' := d) (S := []) (as := [vI 0, vI 0]) dX12_readLine_92 lX12_237 (by omega) sh369 rfl rfl (Nat.le_of_ble_eq_true rfl) ⟨Nat.le_refl _, Nat.le_refl _⟩ (Mt.of2 (L := [some (vR 369), some (vI 0), some (vI 0)]) pnX12 rfl rfl ?_)
          refine wp_aload_n dX12_emit_0 rfl rfl ?_
          refine wp_getR (b := 376) dX12_emit_1 fX12_78 rfl sh369 (by decide) rfl ?_
          refine wp_sipush dX12_emit_4 (by decide) ?_
          refine wp_aload_n dX12_emit_7 rfl rfl ?_
          refine wp_getI dX12_emit_8 fX12_216 rfl sh369 (by decide) ?_
          refine wp_iadd dX12_emit_11 ?_
          refine wp_iload_n dX12_emit_12 rfl rfl ?_
          refine wp_bipush dX12_emit_13 (by decide) ?_
          refine wp_iload_n dX12_emit_15 rfl rfl ?_
          refine wp_imul dX12_emit_16 ?_
          refine wp_iadd dX12_emit_17 ?_
          refine wp_iast dX12_emit_18 sh376 q8.1 ?_
          refine wp_aload_n dX12_emit_19 rfl rfl ?_
          refine wp_dup dX12_emit_20 rfl ?_
          refine wp_getI dX12_emit_21 fX12_216 rfl sh369 (by decide) ?_
          refine wp_iconst dX12_emit_24 (by decide) ?_
          refine wp_iadd dX12_emit_25 ?_
          refine wp_putI dX12_emit_26 fwX12_216 rfl sh369 (by decide) ?_
          refine wp_return dX12_emit_29 rfl ⟨rfl, rfl⟩ ?_
          show Wp _ _ _ _ _ 95 _ [] _ _ _ _ _
          exact wp_return dX12_readLine_95 rfl ⟨rfl, rfl⟩ ⟨rfl, q8.2⟩
        ·
          refine wp_aload_n dX12_readLine_54 rfl rfl ?_
          refine wp_iconst dX12_readLine_55 (by decide) ?_
          refine wp_inlV (d' := d) (S := []) (as := [vI 3]) dX12_readLine_56 lX12_193 (by omega) sh369 rfl rfl (Nat.le_of_ble_eq_true rfl) ⟨Nat.le_refl _, Nat.le_refl _⟩ (Mt.of2 (L := [some (vR 369), some (vI 3)]) pnX12 rfl rfl ?_)
          refine wp_aload_n dX12_wrong_0 rfl rfl ?_
          refine wp_getI dX12_wrong_1 fX12_187 rfl sh369 (by decide) ?_
          refine wp_if_ne (tgt := 25) dX12_wrong_4 rfl (fun c9 => ?_) (fun c9 => ?_)
          ·
            refine wp_return dX12_wrong_25 rfl ⟨rfl, rfl⟩ ?_
            show Wp _ _ _ _ _ 59 _ [] _ _ _ _ _
            refine wp_goto (tgt := 95) dX12_readLine_59 rfl ?_
            exact wp_return dX12_readLine_95 rfl ⟨rfl, rfl⟩ ⟨rfl, (((q5.1 c6).2.2 c7).1 c9)⟩
          ·
            refine wp_aload_n dX12_wrong_7 rfl rfl ?_
            refine wp_iload_n dX12_wrong_8 rfl rfl ?_
            refine wp_bipush dX12_wrong_9 (by decide) ?_
            refine wp_aload_n dX12_wrong_11 rfl rfl ?_
            refine wp_getR (b := 372) dX12_wrong_12 fX12_27 rfl sh369 (by decide) rfl ?_
            refine wp_aload_n dX12_wrong_15 rfl rfl ?_
            refine wp_getI dX12_wrong_16 fX12_184 rfl sh369 (by decide) ?_
            refine wp_iald dX12_wrong_19 sh372 (((q5.1 c6).2.2 c7).2 c9).1 ?_
            refine wp_imul dX12_wrong_20 ?_
            refine wp_iadd dX12_wrong_21 ?_
            refine wp_putI dX12_wrong_22 fwX12_187 rfl sh369 (by decide) ?_
            refine wp_return dX12_wrong_25 rfl ⟨rfl, rfl⟩ ?_
            show Wp _ _ _ _ _ 59 _ [] _ _ _ _ _
            refine wp_goto (tgt := 95) dX12_readLine_59 rfl ?_
            exact wp_return dX12_readLine_95 rfl ⟨rfl, rfl⟩ ⟨rfl, (((q5.1 c6).2.2 c7).2 c9).2⟩
      ·
        refine wp_aload_n dX12_readLine_38 rfl rfl ?_
        refine wp_iconst dX12_readLine_39 (by decide) ?_
        refine wp_inlV (d' := d) (S := []) (as := [vI 1]) dX12_readLine_40 lX12_193 (by omega) sh369 rfl rfl (Nat.le_of_ble_eq_true rfl) ⟨Nat.le_refl _, Nat.le_refl _⟩ (Mt.of2 (L := [some (vR 369), some (vI 1)]) pnX12 rfl rfl ?_)
        refine wp_aload_n dX12_wrong_0 rfl rfl ?_
        refine wp_getI dX12_wrong_1 fX12_187 rfl sh369 (by decide) ?_
        refine wp_if_ne (tgt := 25) dX12_wrong_4 rfl (fun c10 => ?_) (fun c10 => ?_)
        ·
          refine wp_return dX12_wrong_25 rfl ⟨rfl, rfl⟩ ?_
          show Wp _ _ _ _ _ 43 _ [] _ _ _ _ _
          refine wp_goto (tgt := 95) dX12_readLine_43 rfl ?_
          exact wp_return dX12_readLine_95 rfl ⟨rfl, rfl⟩ ⟨rfl, ((q5.2 c6).1 c10)⟩
        ·
          refine wp_aload_n dX12_wrong_7 rfl rfl ?_
          refine wp_iload_n dX12_wrong_8 rfl rfl ?_
          refine wp_bipush dX12_wrong_9 (by decide) ?_
          refine wp_aload_n dX12_wrong_11 rfl rfl ?_
          refine wp_getR (b := 372) dX12_wrong_12 fX12_27 rfl sh369 (by decide) rfl ?_
          refine wp_aload_n dX12_wrong_15 rfl rfl ?_
          refine wp_getI dX12_wrong_16 fX12_184 rfl sh369 (by decide) ?_
          refine wp_iald dX12_wrong_19 sh372 ((q5.2 c6).2 c10).1 ?_
          refine wp_imul dX12_wrong_20 ?_
          refine wp_iadd dX12_wrong_21 ?_
          refine wp_putI dX12_wrong_22 fwX12_187 rfl sh369 (by decide) ?_
          refine wp_return dX12_wrong_25 rfl ⟨rfl, rfl⟩ ?_
          show Wp _ _ _ _ _ 43 _ [] _ _ _ _ _
          refine wp_goto (tgt := 95) dX12_readLine_43 rfl ?_
          exact wp_return dX12_readLine_95 rfl ⟨rfl, rfl⟩ ⟨rfl, ((q5.2 c6).2 c10).2⟩
    ·
      refine wp_aload_n dX12_readLine_23 rfl rfl ?_
      refine wp_callV (S := []) (as := []) dX12_readLine_24 lX12_231 ((q3.2 c4)) (by omega) sh369 rfl rfl (Nat.le_of_ble_eq_true rfl) ⟨Nat.le_refl _, Nat.le_refl _⟩ ?_
      rintro _ _ V11 ⟨rfl, rfl, q11⟩
      show Wp _ _ _ _ _ 27 _ [] _ _ _ _ _
      refine wp_goto (tgt := 95) dX12_readLine_27 rfl ?_
      exact wp_return dX12_readLine_95 rfl ⟨rfl, rfl⟩ ⟨rfl, q11⟩
  ·
    refine wp_aload_n dX12_readLine_8 rfl rfl ?_
    refine wp_callV (S := []) (as := []) dX12_readLine_9 lX12_228 ((q1.2 c2)) (by omega) sh369 rfl rfl (Nat.le_of_ble_eq_true rfl) ⟨Nat.le_refl _, Nat.le_refl _⟩ ?_
    rintro _ _ V12 ⟨rfl, rfl, q12⟩
    show Wp _ _ _ _ _ 12 _ [] _ _ _ _ _
    refine wp_goto (tgt := 95) dX12_readLine_12 rfl ?_
    exact wp_return dX12_readLine_95 rfl ⟨rfl, rfl⟩ ⟨rfl, q12⟩
set_option maxHeartbeats 4000000 in
set_option maxRecDepth 10000 in
theorem sX12_readRow {K : KK} {d : Nat} {V : Mem} {Q : Option AV → Mem → Prop}  (h : (((0 : Int) ≤ (w32 (140 + 0)) ∧ (w32 (140 + 0)) < (280 : Nat)) ∧ Mf K d mX12_readName [vR 369, vI 0, vI (V 375 (Int.toNat (w32 (140 + 0))))] V (fun r V1 => r = none ∧ Mf K d mX12_takeOne [vR 369, vI 8, vI 4] V1 (fun r V2 => ∃ z2, r = some (vI z2) ∧ Wf K (d + 1) mX12_readRow 32 [some (vR 369), none, some (vI z2), some (vI (w32 (143 + (w32 (22 * (V 375 (Int.toNat (w32 (140 + 0))))))))), some (vI 0), none] [] V2 Q)))) : Mf K (d + 1) mX12_readRow [vR 369] V Q := by
  refine Mt.of2 (L := [some (vR 369), none, none, none, none, none]) pnX12 rfl rfl ?_
  refine wp_aload_n dX12_readRow_0 rfl rfl ?_
  refine wp_iconst dX12_readRow_1 (by decide) ?_
  refine wp_inlV (d' := d) (S := []) (as := [vI 0]) dX12_readRow_2 lX12_225 (by omega) sh369 rfl rfl (Nat.le_of_ble_eq_true rfl) ⟨Nat.le_refl _, Nat.le_refl _⟩ (Mt.of2 (L := [some (vR 369), some (vI 0)]) pnX12 rfl rfl ?_)
  refine wp_aload_n dX12_read_0 rfl rfl ?_
  refine wp_getR (b := 375) dX12_read_1 fX12_75 rfl sh369 (by decide) rfl ?_
  refine wp_sipush dX12_read_4 (by decide) ?_
  refine wp_iload_n dX12_read_7 rfl rfl ?_
  refine wp_iadd dX12_read_8 ?_
  refine wp_iald dX12_read_9 sh375 h.1 ?_
  refine wp_ireturn dX12_read_10 rfl ⟨rfl, rfl⟩ ?_
  show Wp _ _ _ _ _ 5 _ [vI (V 375 (Int.toNat (w32 (140 + 0))))] _ _ _ _ _
  refine wp_istore_n dX12_readRow_5 rfl (by decide) rfl ?_
  refine wp_aload_n dX12_readRow_6 rfl rfl ?_
  refine wp_iconst dX12_readRow_7 (by decide) ?_
  refine wp_iload_n dX12_readRow_8 rfl rfl ?_
  refine wp_callV (S := []) (as := [vI 0, vI (V 375 (Int.toNat (w32 (140 + 0))))]) dX12_readRow_9 lX12_241 (h.2) (by omega) sh369 rfl rfl (Nat.le_of_ble_eq_true rfl) ⟨Nat.le_refl _, Nat.le_refl _⟩ ?_
  rintro _ _ V1 ⟨rfl, rfl, q1⟩
  show Wp _ _ _ _ _ 12 _ [] _ _ _ _ _
  refine wp_aload_n dX12_readRow_12 rfl rfl ?_
  refine wp_bipush dX12_readRow_13 (by decide) ?_
  refine wp_iconst dX12_readRow_15 (by decide) ?_
  refine wp_callV (S := []) (as := [vI 8, vI 4]) dX12_readRow_16 lX12_244 (q1) (by omega) sh369 rfl rfl (Nat.le_of_ble_eq_true rfl) ⟨Nat.le_refl _, Nat.le_refl _⟩ ?_
  rintro _ _ V2 ⟨rfl, z2, rfl, q2⟩
  show Wp _ _ _ _ _ 19 _ [vI z2] _ _ _ _ _
  refine wp_istore_n dX12_readRow_19 rfl (by decide) rfl ?_
  refine wp_sipush dX12_readRow_20 (by decide) ?_
  refine wp_bipush dX12_readRow_23 (by decide) ?_
  refine wp_iload_n dX12_readRow_25 rfl rfl ?_
  refine wp_imul dX12_readRow_26 ?_
  refine wp_iadd dX12_readRow_27 ?_
  refine wp_istore_n dX12_readRow_28 rfl (by decide) rfl ?_
  refine wp_iconst dX12_readRow_29 (by decide) ?_
  refine wp_istore dX12_readRow_30 (by decide) rfl ?_
  exact wp_loc (L2 := [some (vR 369), none, some (vI z2), some (vI (w32 (143 + (w32 (22 * (V 375 (Int.toNat (w32 (140 + 0))))))))), some (vI 0), none]) ⟨rfl, ⟨rfl, ⟨rfl, ⟨rfl, trivial⟩⟩⟩⟩ q2
set_option maxHeartbeats 4000000 in
set_option maxRecDepth 10000 in
theorem sX12_readRow_32 {K : KK} {d : Nat} {V : Mem} {Q : Option AV → Mem → Prop} (x2 : Int) (x3 : Int) (x4 : Int) (h : Mf K d mX12_takeNumber [vR 369, vI 0, vI 99] V (fun r V1 => ∃ z1, r = some (vI z1) ∧ ((¬ (V1 369 8) = 0 → Wf K (d + 1) mX12_readRow 70 [some (vR 369), none, some (vI x2), some (vI x3), some (vI x4), some (vI z1)] [] V1 Q) ∧ ((V1 369 8) = 0 → ((¬ x4 = 20 → Wf K (d + 1) mX12_readRow 70 [some (vR 369), none, some (vI x2), some (vI x3), some (vI x4), some (vI z1)] [] V1 Q) ∧ (x4 = 20 → ((¬ ((upm V1 369 7 (w32 ((V1 369 7) - 1))) 369 8) = 0 → Wf K (d + 1) mX12_readRow 70 [some (vR 369), none, some (vI x2), some (vI x3), some (vI x4), some (vI z1)] [] (upm V1 369 7 (w32 ((V1 369 7) - 1))) Q) ∧ (((upm V1 369 7 (w32 ((V1 369 7) - 1))) 369 8) = 0 → (((0 : Int) ≤ ((upm V1 369 7 (w32 ((V1 369 7) - 1))) 369 7) ∧ ((upm V1 369 7 (w32 ((V1 369 7) - 1))) 369 7) < (1002 : Nat)) ∧ Wf K (d + 1) mX12_readRow 70 [some (vR 369), none, some (vI x2), some (vI x3), some (vI x4), some (vI z1)] [] (upm (upm V1 369 7 (w32 ((V1 369 7) - 1))) 369 8 (w32 (5 + (w32 (16 * ((upm V1 369 7 (w32 ((V1 369 7) - 1))) 372 (Int.toNat ((upm V1 369 7 (w32 ((V1 369 7) - 1))) 369 7)))))))) Q))))))))) : Wf K (d + 1) mX12_readRow 32 [some (vR 369), none, some (vI x2), some (vI x3), some (vI x4), none] [] V Q := by
  refine wp_aload_n dX12_readRow_32 rfl rfl ?_
  refine wp_iconst dX12_readRow_33 (by decide) ?_
  refine wp_bipush dX12_readRow_34 (by decide) ?_
  refine wp_callV (S := []) (as := [vI 0, vI 99]) dX12_readRow_36 lX12_247 (h) (by omega) sh369 rfl rfl (Nat.le_of_ble_eq_true rfl) ⟨Nat.le_refl _, Nat.le_refl _⟩ ?_
  rintro _ _ V1 ⟨rfl, z1, rfl, q1⟩
  show Wp _ _ _ _ _ 39 _ [vI z1] _ _ _ _ _
  refine wp_istore dX12_readRow_39 (by decide) rfl ?_
  refine wp_aload_n dX12_readRow_41 rfl rfl ?_
  refine wp_getI dX12_readRow_42 fX12_187 rfl sh369 (by decide) ?_
  refine wp_if_ne (tgt := 70) dX12_readRow_45 rfl (fun c2 => ?_) (fun c2 => ?_)
  ·
    exact (q1.1 c2)
  ·
    refine wp_iload dX12_readRow_48 rfl ?_
    refine wp_bipush dX12_readRow_50 (by decide) ?_
    refine wp_icmp_ne (tgt := 70) dX12_readRow_52 rfl (fun c3 => ?_) (fun c3 => ?_)
    ·
      exact ((q1.2 c2).1 c3)
    ·
      refine wp_aload_n dX12_readRow_55 rfl rfl ?_
      refine wp_dup dX12_readRow_56 rfl ?_
      refine wp_getI dX12_readRow_57 fX12_184 rfl sh369 (by decide) ?_
      refine wp_iconst dX12_readRow_60 (by decide) ?_
      refine wp_isub dX12_readRow_61 ?_
      refine wp_putI dX12_readRow_62 fwX12_184 rfl sh369 (by decide) ?_
      refine wp_aload_n dX12_readRow_65 rfl rfl ?_
      refine wp_iconst dX12_readRow_66 (by decide) ?_
      refine wp_inlV (d' := d) (S := []) (as := [vI 5]) dX12_readRow_67 lX12_193 (by omega) sh369 rfl rfl (Nat.le_of_ble_eq_true rfl) ⟨Nat.le_refl _, Nat.le_refl _⟩ (Mt.of2 (L := [some (vR 369), some (vI 5)]) pnX12 rfl rfl ?_)
      refine wp_aload_n dX12_wrong_0 rfl rfl ?_
      refine wp_getI dX12_wrong_1 fX12_187 rfl sh369 (by decide) ?_
      refine wp_if_ne (tgt := 25) dX12_wrong_4 rfl (fun c4 => ?_) (fun c4 => ?_)
      ·
        refine wp_return dX12_wrong_25 rfl ⟨rfl, rfl⟩ ?_
        show Wp _ _ _ _ _ 70 _ [] _ _ _ _ _
        exact (((q1.2 c2).2 c3).1 c4)
      ·
        refine wp_aload_n dX12_wrong_7 rfl rfl ?_
        refine wp_iload_n dX12_wrong_8 rfl rfl ?_
        refine wp_bipush dX12_wrong_9 (by decide) ?_
        refine wp_aload_n dX12_wrong_11 rfl rfl ?_
        refine wp_getR (b := 372) dX12_wrong_12 fX12_27 rfl sh369 (by decide) rfl ?_
        refine wp_aload_n dX12_wrong_15 rfl rfl ?_
        refine wp_getI dX12_wrong_16 fX12_184 rfl sh369 (by decide) ?_
        refine wp_iald dX12_wrong_19 sh372 (((q1.2 c2).2 c3).2 c4).1 ?_
        refine wp_imul dX12_wrong_20 ?_
        refine wp_iadd dX12_wrong_21 ?_
        refine wp_putI dX12_wrong_22 fwX12_187 rfl sh369 (by decide) ?_
        refine wp_return dX12_wrong_25 rfl ⟨rfl, rfl⟩ ?_
        show Wp _ _ _ _ _ 70 _ [] _ _ _ _ _
        exact (((q1.2 c2).2 c3).2 c4).2
set_option maxHeartbeats 4000000 in
set_option maxRecDepth 10000 in
theorem sX12_readRow_70 {K : KK} {d : Nat} {V : Mem} {Q : Option AV → Mem → Prop} (x2 : Int) (x3 : Int) (x4 : Int) (x5 : Int) (h : ((¬ (V 369 8) = 0 → Wf K (d + 1) mX12_readRow 93 [some (vR 369), none, some (vI x2), some (vI x3), some (vI x4), none] [] V Q) ∧ ((V 369 8) = 0 → (((0 : Int) ≤ (w32 ((w32 (x3 + 2)) + x4)) ∧ (w32 ((w32 (x3 + 2)) + x4)) < (280 : Nat)) ∧ Wf K (d + 1) mX12_readRow 93 [some (vR 369), none, some (vI x2), some (vI x3), some (vI (w32 (x4 + 1))), none] [] (upm V 375 (Int.toNat (w32 ((w32 (x3 + 2)) + x4))) x5) Q)))) : Wf K (d + 1) mX12_readRow 70 [some (vR 369), none, some (vI x2), some (vI x3), some (vI x4), some (vI x5)] [] V Q := by
  refine wp_aload_n dX12_readRow_70 rfl rfl ?_
  refine wp_getI dX12_readRow_71 fX12_187 rfl sh369 (by decide) ?_
  refine wp_if_ne (tgt := 93) dX12_readRow_74 rfl (fun c1 => ?_) (fun c1 => ?_)
  ·
    exact wp_loc (L2 := [some (vR 369), none, some (vI x2), some (vI x3), some (vI x4), none]) ⟨rfl, ⟨rfl, ⟨rfl, ⟨rfl, trivial⟩⟩⟩⟩ (h.1 c1)
  ·
    refine wp_aload_n dX12_readRow_77 rfl rfl ?_
    refine wp_getR (b := 375) dX12_readRow_78 fX12_75 rfl sh369 (by decide) rfl ?_
    refine wp_iload_n dX12_readRow_81 rfl rfl ?_
    refine wp_iconst dX12_readRow_82 (by decide) ?_
    refine wp_iadd dX12_readRow_83 ?_
    refine wp_iload dX12_readRow_84 rfl ?_
    refine wp_iadd dX12_readRow_86 ?_
    refine wp_iload dX12_readRow_87 rfl ?_
    refine wp_iast dX12_readRow_89 sh375 (h.2 c1).1 ?_
    refine wp_iinc dX12_readRow_90 rfl rfl ?_
    exact wp_loc (L2 := [some (vR 369), none, some (vI x2), some (vI x3), some (vI (w32 (x4 + 1))), none]) ⟨rfl, ⟨rfl, ⟨rfl, ⟨rfl, trivial⟩⟩⟩⟩ (h.2 c1).2
set_option maxHeartbeats 4000000 in
set_option maxRecDepth 10000 in
theorem sX12_readRow_93 {K : KK} {d : Nat} {V : Mem} {Q : Option AV → Mem → Prop} (x2 : Int) (x3 : Int) (x4 : Int) (h : ((¬ (V 369 8) = 0 → Wf K (d + 1) mX12_readRow 113 [some (vR 369), none, some (vI x2), some (vI x3), some (vI x4), none] [] V Q) ∧ ((V 369 8) = 0 → (((0 : Int) ≤ (V 369 7) ∧ (V 369 7) < (1002 : Nat)) ∧ (((V 371 (Int.toNat (V 369 7))) = 2 → Wf K (d + 1) mX12_readRow 32 [some (vR 369), none, some (vI x2), some (vI x3), some (vI x4), none] [] V Q) ∧ (¬ ((V 371 (Int.toNat (V 369 7))) = 2) → Wf K (d + 1) mX12_readRow 113 [some (vR 369), none, some (vI x2), some (vI x3), some (vI x4), none] [] V Q)))))) : Wf K (d + 1) mX12_readRow 93 [some (vR 369), none, some (vI x2), some (vI x3), some (vI x4), none] [] V Q := by
  refine wp_aload_n dX12_readRow_93 rfl rfl ?_
  refine wp_getI dX12_readRow_94 fX12_187 rfl sh369 (by decide) ?_
  refine wp_if_ne (tgt := 113) dX12_readRow_97 rfl (fun c1 => ?_) (fun c1 => ?_)
  ·
    exact (h.1 c1)
  ·
    refine wp_aload_n dX12_readRow_100 rfl rfl ?_
    refine wp_getR (b := 371) dX12_readRow_101 fX12_24 rfl sh369 (by decide) rfl ?_
    refine wp_aload_n dX12_readRow_104 rfl rfl ?_
    refine wp_getI dX12_readRow_105 fX12_184 rfl sh369 (by decide) ?_
    refine wp_iald dX12_readRow_108 sh371 (h.2 c1).1 ?_
    refine wp_iconst dX12_readRow_109 (by decide) ?_
    refine wp_icmp_eq (tgt := 32) dX12_readRow_110 rfl (fun c2 => ?_) (fun c2 => ?_)
    ·
      exact ((h.2 c1).2.1 c2)
    ·
      exact ((h.2 c1).2.2 c2)
set_option maxHeartbeats 4000000 in
set_option maxRecDepth 10000 in
theorem sX12_readRow_113 {K : KK} {d : Nat} {V : Mem} {Q : Option AV → Mem → Prop} (x2 : Int) (x3 : Int) (x4 : Int) (h : ((¬ (V 369 8) = 0 → Q none V) ∧ ((V 369 8) = 0 → (((0 : Int) ≤ x3 ∧ x3 < (280 : Nat)) ∧ (((0 : Int) ≤ (w32 (x3 + 1)) ∧ (w32 (x3 + 1)) < (280 : Nat)) ∧ Q none (upm (upm (upm V 375 (Int.toNat x3) x2) 375 (Int.toNat (w32 (x3 + 1))) x4) 375 140 (w32 (((upm (upm V 375 (Int.toNat x3) x2) 375 (Int.toNat (w32 (x3 + 1))) x4) 375 140) + 1)))))))) : Wf K (d + 1) mX12_readRow 113 [some (vR 369), none, some (vI x2), some (vI x3), some (vI x4), none] [] V Q := by
  refine wp_aload_n dX12_readRow_113 rfl rfl ?_
  refine wp_getI dX12_readRow_114 fX12_187 rfl sh369 (by decide) ?_
  refine wp_if_ne (tgt := 149) dX12_readRow_117 rfl (fun c1 => ?_) (fun c1 => ?_)
  ·
    exact wp_return dX12_readRow_149 rfl ⟨rfl, rfl⟩ ⟨rfl, (h.1 c1)⟩
  ·
    refine wp_aload_n dX12_readRow_120 rfl rfl ?_
    refine wp_getR (b := 375) dX12_readRow_121 fX12_75 rfl sh369 (by decide) rfl ?_
    refine wp_iload_n dX12_readRow_124 rfl rfl ?_
    refine wp_iload_n dX12_readRow_125 rfl rfl ?_
    refine wp_iast dX12_readRow_126 sh375 (h.2 c1).1 ?_
    refine wp_aload_n dX12_readRow_127 rfl rfl ?_
    refine wp_getR (b := 375) dX12_readRow_128 fX12_75 rfl sh369 (by decide) rfl ?_
    refine wp_iload_n dX12_readRow_131 rfl rfl ?_
    refine wp_iconst dX12_readRow_132 (by decide) ?_
    refine wp_iadd dX12_readRow_133 ?_
    refine wp_iload dX12_readRow_134 rfl ?_
    refine wp_iast dX12_readRow_136 sh375 (h.2 c1).2.1 ?_
    refine wp_aload_n dX12_readRow_137 rfl rfl ?_
    refine wp_getR (b := 375) dX12_readRow_138 fX12_75 rfl sh369 (by decide) rfl ?_
    refine wp_sipush dX12_readRow_141 (by decide) ?_
    refine wp_dup2 dX12_readRow_144 rfl rfl ?_
    refine wp_iald dX12_readRow_145 sh375 (by decide) ?_
    refine wp_iconst dX12_readRow_146 (by decide) ?_
    refine wp_iadd dX12_readRow_147 ?_
    refine wp_iast dX12_readRow_148 sh375 (by decide) ?_
    exact wp_return dX12_readRow_149 rfl ⟨rfl, rfl⟩ ⟨rfl, (h.2 c1).2.2⟩
set_option maxHeartbeats 4000000 in
set_option maxRecDepth 10000 in
theorem sX12_readBraid {K : KK} {d : Nat} {V : Mem} {Q : Option AV → Mem → Prop}  (h : (((0 : Int) ≤ (w32 (140 + 1)) ∧ (w32 (140 + 1)) < (280 : Nat)) ∧ Mf K d mX12_readName [vR 369, vI 4, vI (V 375 (Int.toNat (w32 (140 + 1))))] V (fun r V1 => r = none ∧ Wf K (d + 1) mX12_readBraid 26 [some (vR 369), none, some (vI (w32 (231 + (w32 (11 * (V 375 (Int.toNat (w32 (140 + 1))))))))), some (vI 0), some (vI 0), none] [] V1 Q))) : Mf K (d + 1) mX12_readBraid [vR 369] V Q := by
  refine Mt.of2 (L := [some (vR 369), none, none, none, none, none]) pnX12 rfl rfl ?_
  refine wp_aload_n dX12_readBraid_0 rfl rfl ?_
  refine wp_iconst dX12_readBraid_1 (by decide) ?_
  refine wp_inlV (d' := d) (S := []) (as := [vI 1]) dX12_readBraid_2 lX12_225 (by omega) sh369 rfl rfl (Nat.le_of_ble_eq_true rfl) ⟨Nat.le_refl _, Nat.le_refl _⟩ (Mt.of2 (L := [some (vR 369), some (vI 1)]) pnX12 rfl rfl ?_)
  refine wp_aload_n dX12_read_0 rfl rfl ?_
  refine wp_getR (b := 375) dX12_read_1 fX12_75 rfl sh369 (by decide) rfl ?_
  refine wp_sipush dX12_read_4 (by decide) ?_
  refine wp_iload_n dX12_read_7 rfl rfl ?_
  refine wp_iadd dX12_read_8 ?_
  refine wp_iald dX12_read_9 sh375 h.1 ?_
  refine wp_ireturn dX12_read_10 rfl ⟨rfl, rfl⟩ ?_
  show Wp _ _ _ _ _ 5 _ [vI (V 375 (Int.toNat (w32 (140 + 1))))] _ _ _ _ _
  refine wp_istore_n dX12_readBraid_5 rfl (by decide) rfl ?_
  refine wp_aload_n dX12_readBraid_6 rfl rfl ?_
  refine wp_iconst dX12_readBraid_7 (by decide) ?_
  refine wp_iload_n dX12_readBraid_8 rfl rfl ?_
  refine wp_callV (S := []) (as := [vI 4, vI (V 375 (Int.toNat (w32 (140 + 1))))]) dX12_readBraid_9 lX12_241 (h.2) (by omega) sh369 rfl rfl (Nat.le_of_ble_eq_true rfl) ⟨Nat.le_refl _, Nat.le_refl _⟩ ?_
  rintro _ _ V1 ⟨rfl, rfl, q1⟩
  show Wp _ _ _ _ _ 12 _ [] _ _ _ _ _
  refine wp_sipush dX12_readBraid_12 (by decide) ?_
  refine wp_bipush dX12_readBraid_15 (by decide) ?_
  refine wp_iload_n dX12_readBraid_17 rfl rfl ?_
  refine wp_imul dX12_readBraid_18 ?_
  refine wp_iadd dX12_readBraid_19 ?_
  refine wp_istore_n dX12_readBraid_20 rfl (by decide) rfl ?_
  refine wp_iconst dX12_readBraid_21 (by decide) ?_
  refine wp_istore_n dX12_readBraid_22 rfl (by decide) rfl ?_
  refine wp_iconst dX12_readBraid_23 (by decide) ?_
  refine wp_istore dX12_readBraid_24 (by decide) rfl ?_
  exact wp_loc (L2 := [some (vR 369), none, some (vI (w32 (231 + (w32 (11 * (V 375 (Int.toNat (w32 (140 + 1))))))))), some (vI 0), some (vI 0), none]) ⟨rfl, ⟨rfl, ⟨rfl, ⟨rfl, trivial⟩⟩⟩⟩ q1
set_option maxHeartbeats 4000000 in
set_option maxRecDepth 10000 in
theorem sX12_readBraid_26 {K : KK} {d : Nat} {V : Mem} {Q : Option AV → Mem → Prop} (x2 : Int) (x3 : Int) (x4 : Int) (h : Mf K d mX12_takeNumber [vR 369, vI 0, vI 9] V (fun r V1 => ∃ z1, r = some (vI z1) ∧ ((¬ (V1 369 8) = 0 → Wf K (d + 1) mX12_readBraid 67 [some (vR 369), none, some (vI x2), some (vI x3), some (vI x4), some (vI z1)] [] V1 Q) ∧ ((V1 369 8) = 0 → ((¬ (b_iand (b_ishr x3 z1) 1) = 1 → Wf K (d + 1) mX12_readBraid 67 [some (vR 369), none, some (vI x2), some (vI x3), some (vI x4), some (vI z1)] [] V1 Q) ∧ ((b_iand (b_ishr x3 z1) 1) = 1 → ((¬ ((upm V1 369 7 (w32 ((V1 369 7) - 1))) 369 8) = 0 → Wf K (d + 1) mX12_readBraid 67 [some (vR 369), none, some (vI x2), some (vI x3), some (vI x4), some (vI z1)] [] (upm V1 369 7 (w32 ((V1 369 7) - 1))) Q) ∧ (((upm V1 369 7 (w32 ((V1 369 7) - 1))) 369 8) = 0 → (((0 : Int) ≤ ((upm V1 369 7 (w32 ((V1 369 7) - 1))) 369 7) ∧ ((upm V1 369 7 (w32 ((V1 369 7) - 1))) 369 7) < (1002 : Nat)) ∧ Wf K (d + 1) mX12_readBraid 67 [some (vR 369), none, some (vI x2), some (vI x3), some (vI x4), some (vI z1)] [] (upm (upm V1 369 7 (w32 ((V1 369 7) - 1))) 369 8 (w32 (3 + (w32 (16 * ((upm V1 369 7 (w32 ((V1 369 7) - 1))) 372 (Int.toNat ((upm V1 369 7 (w32 ((V1 369 7) - 1))) 369 7)))))))) Q))))))))) : Wf K (d + 1) mX12_readBraid 26 [some (vR 369), none, some (vI x2), some (vI x3), some (vI x4), none] [] V Q := by
  refine wp_aload_n dX12_readBraid_26 rfl rfl ?_
  refine wp_iconst dX12_readBraid_27 (by decide) ?_
  refine wp_bipush dX12_readBraid_28 (by decide) ?_
  refine wp_callV (S := []) (as := [vI 0, vI 9]) dX12_readBraid_30 lX12_247 (h) (by omega) sh369 rfl rfl (Nat.le_of_ble_eq_true rfl) ⟨Nat.le_refl _, Nat.le_refl _⟩ ?_
  rintro _ _ V1 ⟨rfl, z1, rfl, q1⟩
  show Wp _ _ _ _ _ 33 _ [vI z1] _ _ _ _ _
  refine wp_istore dX12_readBraid_33 (by decide) rfl ?_
  refine wp_aload_n dX12_readBraid_35 rfl rfl ?_
  refine wp_getI dX12_readBraid_36 fX12_187 rfl sh369 (by decide) ?_
  refine wp_if_ne (tgt := 67) dX12_readBraid_39 rfl (fun c2 => ?_) (fun c2 => ?_)
  ·
    exact (q1.1 c2)
  ·
    refine wp_iload_n dX12_readBraid_42 rfl rfl ?_
    refine wp_iload dX12_readBraid_43 rfl ?_
    refine wp_ishr dX12_readBraid_45 ?_
    refine wp_iconst dX12_readBraid_46 (by decide) ?_
    refine wp_iand dX12_readBraid_47 ?_
    refine wp_iconst dX12_readBraid_48 (by decide) ?_
    refine wp_icmp_ne (tgt := 67) dX12_readBraid_49 rfl (fun c3 => ?_) (fun c3 => ?_)
    ·
      exact ((q1.2 c2).1 c3)
    ·
      refine wp_aload_n dX12_readBraid_52 rfl rfl ?_
      refine wp_dup dX12_readBraid_53 rfl ?_
      refine wp_getI dX12_readBraid_54 fX12_184 rfl sh369 (by decide) ?_
      refine wp_iconst dX12_readBraid_57 (by decide) ?_
      refine wp_isub dX12_readBraid_58 ?_
      refine wp_putI dX12_readBraid_59 fwX12_184 rfl sh369 (by decide) ?_
      refine wp_aload_n dX12_readBraid_62 rfl rfl ?_
      refine wp_iconst dX12_readBraid_63 (by decide) ?_
      refine wp_inlV (d' := d) (S := []) (as := [vI 3]) dX12_readBraid_64 lX12_193 (by omega) sh369 rfl rfl (Nat.le_of_ble_eq_true rfl) ⟨Nat.le_refl _, Nat.le_refl _⟩ (Mt.of2 (L := [some (vR 369), some (vI 3)]) pnX12 rfl rfl ?_)
      refine wp_aload_n dX12_wrong_0 rfl rfl ?_
      refine wp_getI dX12_wrong_1 fX12_187 rfl sh369 (by decide) ?_
      refine wp_if_ne (tgt := 25) dX12_wrong_4 rfl (fun c4 => ?_) (fun c4 => ?_)
      ·
        refine wp_return dX12_wrong_25 rfl ⟨rfl, rfl⟩ ?_
        show Wp _ _ _ _ _ 67 _ [] _ _ _ _ _
        exact (((q1.2 c2).2 c3).1 c4)
      ·
        refine wp_aload_n dX12_wrong_7 rfl rfl ?_
        refine wp_iload_n dX12_wrong_8 rfl rfl ?_
        refine wp_bipush dX12_wrong_9 (by decide) ?_
        refine wp_aload_n dX12_wrong_11 rfl rfl ?_
        refine wp_getR (b := 372) dX12_wrong_12 fX12_27 rfl sh369 (by decide) rfl ?_
        refine wp_aload_n dX12_wrong_15 rfl rfl ?_
        refine wp_getI dX12_wrong_16 fX12_184 rfl sh369 (by decide) ?_
        refine wp_iald dX12_wrong_19 sh372 (((q1.2 c2).2 c3).2 c4).1 ?_
        refine wp_imul dX12_wrong_20 ?_
        refine wp_iadd dX12_wrong_21 ?_
        refine wp_putI dX12_wrong_22 fwX12_187 rfl sh369 (by decide) ?_
        refine wp_return dX12_wrong_25 rfl ⟨rfl, rfl⟩ ?_
        show Wp _ _ _ _ _ 67 _ [] _ _ _ _ _
        exact (((q1.2 c2).2 c3).2 c4).2
set_option maxHeartbeats 4000000 in
set_option maxRecDepth 10000 in
theorem sX12_readBraid_67 {K : KK} {d : Nat} {V : Mem} {Q : Option AV → Mem → Prop} (x2 : Int) (x3 : Int) (x4 : Int) (x5 : Int) (h : ((¬ (V 369 8) = 0 → Wf K (d + 1) mX12_readBraid 97 [some (vR 369), none, some (vI x2), some (vI x3), some (vI x4), none] [] V Q) ∧ ((V 369 8) = 0 → (((0 : Int) ≤ (w32 ((w32 (x2 + 1)) + x4)) ∧ (w32 ((w32 (x2 + 1)) + x4)) < (280 : Nat)) ∧ Wf K (d + 1) mX12_readBraid 97 [some (vR 369), none, some (vI x2), some (vI (b_ior x3 (b_ishl 1 x5))), some (vI (w32 (x4 + 1))), none] [] (upm V 375 (Int.toNat (w32 ((w32 (x2 + 1)) + x4))) x5) Q)))) : Wf K (d + 1) mX12_readBraid 67 [some (vR 369), none, some (vI x2), some (vI x3), some (vI x4), some (vI x5)] [] V Q := by
  refine wp_aload_n dX12_readBraid_67 rfl rfl ?_
  refine wp_getI dX12_readBraid_68 fX12_187 rfl sh369 (by decide) ?_
  refine wp_if_ne (tgt := 97) dX12_readBraid_71 rfl (fun c1 => ?_) (fun c1 => ?_)
  ·
    exact wp_loc (L2 := [some (vR 369), none, some (vI x2), some (vI x3), some (vI x4), none]) ⟨rfl, ⟨rfl, ⟨rfl, ⟨rfl, trivial⟩⟩⟩⟩ (h.1 c1)
  ·
    refine wp_aload_n dX12_readBraid_74 rfl rfl ?_
    refine wp_getR (b := 375) dX12_readBraid_75 fX12_75 rfl sh369 (by decide) rfl ?_
    refine wp_iload_n dX12_readBraid_78 rfl rfl ?_
    refine wp_iconst dX12_readBraid_79 (by decide) ?_
    refine wp_iadd dX12_readBraid_80 ?_
    refine wp_iload dX12_readBraid_81 rfl ?_
    refine wp_iadd dX12_readBraid_83 ?_
    refine wp_iload dX12_readBraid_84 rfl ?_
    refine wp_iast dX12_readBraid_86 sh375 (h.2 c1).1 ?_
    refine wp_iload_n dX12_readBraid_87 rfl rfl ?_
    refine wp_iconst dX12_readBraid_88 (by decide) ?_
    refine wp_iload dX12_readBraid_89 rfl ?_
    refine wp_ishl dX12_readBraid_91 ?_
    refine wp_ior dX12_readBraid_92 ?_
    refine wp_istore_n dX12_readBraid_93 rfl (by decide) rfl ?_
    refine wp_iinc dX12_readBraid_94 rfl rfl ?_
    exact wp_loc (L2 := [some (vR 369), none, some (vI x2), some (vI (b_ior x3 (b_ishl 1 x5))), some (vI (w32 (x4 + 1))), none]) ⟨rfl, ⟨rfl, ⟨rfl, ⟨rfl, trivial⟩⟩⟩⟩ (h.2 c1).2
set_option maxHeartbeats 4000000 in
set_option maxRecDepth 10000 in
theorem sX12_readBraid_97 {K : KK} {d : Nat} {V : Mem} {Q : Option AV → Mem → Prop} (x2 : Int) (x3 : Int) (x4 : Int) (h : ((¬ (V 369 8) = 0 → Wf K (d + 1) mX12_readBraid 117 [some (vR 369), none, some (vI x2), some (vI x3), some (vI x4), none] [] V Q) ∧ ((V 369 8) = 0 → (((0 : Int) ≤ (V 369 7) ∧ (V 369 7) < (1002 : Nat)) ∧ (((V 371 (Int.toNat (V 369 7))) = 2 → Wf K (d + 1) mX12_readBraid 26 [some (vR 369), none, some (vI x2), some (vI x3), some (vI x4), none] [] V Q) ∧ (¬ ((V 371 (Int.toNat (V 369 7))) = 2) → Wf K (d + 1) mX12_readBraid 117 [some (vR 369), none, some (vI x2), some (vI x3), some (vI x4), none] [] V Q)))))) : Wf K (d + 1) mX12_readBraid 97 [some (vR 369), none, some (vI x2), some (vI x3), some (vI x4), none] [] V Q := by
  refine wp_aload_n dX12_readBraid_97 rfl rfl ?_
  refine wp_getI dX12_readBraid_98 fX12_187 rfl sh369 (by decide) ?_
  refine wp_if_ne (tgt := 117) dX12_readBraid_101 rfl (fun c1 => ?_) (fun c1 => ?_)
  ·
    exact (h.1 c1)
  ·
    refine wp_aload_n dX12_readBraid_104 rfl rfl ?_
    refine wp_getR (b := 371) dX12_readBraid_105 fX12_24 rfl sh369 (by decide) rfl ?_
    refine wp_aload_n dX12_readBraid_108 rfl rfl ?_
    refine wp_getI dX12_readBraid_109 fX12_184 rfl sh369 (by decide) ?_
    refine wp_iald dX12_readBraid_112 sh371 (h.2 c1).1 ?_
    refine wp_iconst dX12_readBraid_113 (by decide) ?_
    refine wp_icmp_eq (tgt := 26) dX12_readBraid_114 rfl (fun c2 => ?_) (fun c2 => ?_)
    ·
      exact ((h.2 c1).2.1 c2)
    ·
      exact ((h.2 c1).2.2 c2)
set_option maxHeartbeats 4000000 in
set_option maxRecDepth 10000 in
theorem sX12_readBraid_117 {K : KK} {d : Nat} {V : Mem} {Q : Option AV → Mem → Prop} (x2 : Int) (x3 : Int) (x4 : Int) (h : Mf K d mX12_isSign [vR 369, vI 59] V (fun r V1 => ∃ z1, r = some (vI z1) ∧ ((z1 = 0 → Wf K (d + 1) mX12_readBraid 141 [some (vR 369), none, some (vI x2), none, some (vI x4), none] [] V1 Q) ∧ (¬ (z1 = 0) → ((x3 = (w32 ((b_ishl 1 x4) - 1)) → Wf K (d + 1) mX12_readBraid 141 [some (vR 369), none, some (vI x2), none, some (vI x4), none] [] V1 Q) ∧ (¬ (x3 = (w32 ((b_ishl 1 x4) - 1))) → ((¬ (V1 369 8) = 0 → Wf K (d + 1) mX12_readBraid 141 [some (vR 369), none, some (vI x2), none, some (vI x4), none] [] V1 Q) ∧ ((V1 369 8) = 0 → (((0 : Int) ≤ (V1 369 7) ∧ (V1 369 7) < (1002 : Nat)) ∧ Wf K (d + 1) mX12_readBraid 141 [some (vR 369), none, some (vI x2), none, some (vI x4), none] [] (upm V1 369 8 (w32 (5 + (w32 (16 * (V1 372 (Int.toNat (V1 369 7)))))))) Q))))))))) : Wf K (d + 1) mX12_readBraid 117 [some (vR 369), none, some (vI x2), some (vI x3), some (vI x4), none] [] V Q := by
  refine wp_aload_n dX12_readBraid_117 rfl rfl ?_
  refine wp_bipush dX12_readBraid_118 (by decide) ?_
  refine wp_callV (S := []) (as := [vI 59]) dX12_readBraid_120 lX12_190 (h) (by omega) sh369 rfl rfl (Nat.le_of_ble_eq_true rfl) ⟨Nat.le_refl _, Nat.le_refl _⟩ ?_
  rintro _ _ V1 ⟨rfl, z1, rfl, q1⟩
  show Wp _ _ _ _ _ 123 _ [vI z1] _ _ _ _ _
  refine wp_if_eq (tgt := 141) dX12_readBraid_123 rfl (fun c2 => ?_) (fun c2 => ?_)
  ·
    exact wp_loc (L2 := [some (vR 369), none, some (vI x2), none, some (vI x4), none]) ⟨rfl, ⟨rfl, ⟨rfl, trivial⟩⟩⟩ (q1.1 c2)
  ·
    refine wp_iload_n dX12_readBraid_126 rfl rfl ?_
    refine wp_iconst dX12_readBraid_127 (by decide) ?_
    refine wp_iload dX12_readBraid_128 rfl ?_
    refine wp_ishl dX12_readBraid_130 ?_
    refine wp_iconst dX12_readBraid_131 (by decide) ?_
    refine wp_isub dX12_readBraid_132 ?_
    refine wp_icmp_eq (tgt := 141) dX12_readBraid_133 rfl (fun c3 => ?_) (fun c3 => ?_)
    ·
      exact wp_loc (L2 := [some (vR 369), none, some (vI x2), none, some (vI x4), none]) ⟨rfl, ⟨rfl, ⟨rfl, trivial⟩⟩⟩ ((q1.2 c2).1 c3)
    ·
      refine wp_aload_n dX12_readBraid_136 rfl rfl ?_
      refine wp_iconst dX12_readBraid_137 (by decide) ?_
      refine wp_inlV (d' := d) (S := []) (as := [vI 5]) dX12_readBraid_138 lX12_193 (by omega) sh369 rfl rfl (Nat.le_of_ble_eq_true rfl) ⟨Nat.le_refl _, Nat.le_refl _⟩ (Mt.of2 (L := [some (vR 369), some (vI 5)]) pnX12 rfl rfl ?_)
      refine wp_aload_n dX12_wrong_0 rfl rfl ?_
      refine wp_getI dX12_wrong_1 fX12_187 rfl sh369 (by decide) ?_
      refine wp_if_ne (tgt := 25) dX12_wrong_4 rfl (fun c4 => ?_) (fun c4 => ?_)
      ·
        refine wp_return dX12_wrong_25 rfl ⟨rfl, rfl⟩ ?_
        show Wp _ _ _ _ _ 141 _ [] _ _ _ _ _
        exact wp_loc (L2 := [some (vR 369), none, some (vI x2), none, some (vI x4), none]) ⟨rfl, ⟨rfl, ⟨rfl, trivial⟩⟩⟩ (((q1.2 c2).2 c3).1 c4)
      ·
        refine wp_aload_n dX12_wrong_7 rfl rfl ?_
        refine wp_iload_n dX12_wrong_8 rfl rfl ?_
        refine wp_bipush dX12_wrong_9 (by decide) ?_
        refine wp_aload_n dX12_wrong_11 rfl rfl ?_
        refine wp_getR (b := 372) dX12_wrong_12 fX12_27 rfl sh369 (by decide) rfl ?_
        refine wp_aload_n dX12_wrong_15 rfl rfl ?_
        refine wp_getI dX12_wrong_16 fX12_184 rfl sh369 (by decide) ?_
        refine wp_iald dX12_wrong_19 sh372 (((q1.2 c2).2 c3).2 c4).1 ?_
        refine wp_imul dX12_wrong_20 ?_
        refine wp_iadd dX12_wrong_21 ?_
        refine wp_putI dX12_wrong_22 fwX12_187 rfl sh369 (by decide) ?_
        refine wp_return dX12_wrong_25 rfl ⟨rfl, rfl⟩ ?_
        show Wp _ _ _ _ _ 141 _ [] _ _ _ _ _
        exact wp_loc (L2 := [some (vR 369), none, some (vI x2), none, some (vI x4), none]) ⟨rfl, ⟨rfl, ⟨rfl, trivial⟩⟩⟩ (((q1.2 c2).2 c3).2 c4).2
set_option maxHeartbeats 4000000 in
set_option maxRecDepth 10000 in
theorem sX12_readBraid_141 {K : KK} {d : Nat} {V : Mem} {Q : Option AV → Mem → Prop} (x2 : Int) (x4 : Int) (h : ((¬ (V 369 8) = 0 → Q none V) ∧ ((V 369 8) = 0 → (((0 : Int) ≤ x2 ∧ x2 < (280 : Nat)) ∧ Q none (upm (upm V 375 (Int.toNat x2) x4) 375 141 (w32 (((upm V 375 (Int.toNat x2) x4) 375 141) + 1))))))) : Wf K (d + 1) mX12_readBraid 141 [some (vR 369), none, some (vI x2), none, some (vI x4), none] [] V Q := by
  refine wp_aload_n dX12_readBraid_141 rfl rfl ?_
  refine wp_getI dX12_readBraid_142 fX12_187 rfl sh369 (by decide) ?_
  refine wp_if_ne (tgt := 168) dX12_readBraid_145 rfl (fun c1 => ?_) (fun c1 => ?_)
  ·
    exact wp_return dX12_readBraid_168 rfl ⟨rfl, rfl⟩ ⟨rfl, (h.1 c1)⟩
  ·
    refine wp_aload_n dX12_readBraid_148 rfl rfl ?_
    refine wp_getR (b := 375) dX12_readBraid_149 fX12_75 rfl sh369 (by decide) rfl ?_
    refine wp_iload_n dX12_readBraid_152 rfl rfl ?_
    refine wp_iload dX12_readBraid_153 rfl ?_
    refine wp_iast dX12_readBraid_155 sh375 (h.2 c1).1 ?_
    refine wp_aload_n dX12_readBraid_156 rfl rfl ?_
    refine wp_getR (b := 375) dX12_readBraid_157 fX12_75 rfl sh369 (by decide) rfl ?_
    refine wp_sipush dX12_readBraid_160 (by decide) ?_
    refine wp_dup2 dX12_readBraid_163 rfl rfl ?_
    refine wp_iald dX12_readBraid_164 sh375 (by decide) ?_
    refine wp_iconst dX12_readBraid_165 (by decide) ?_
    refine wp_iadd dX12_readBraid_166 ?_
    refine wp_iast dX12_readBraid_167 sh375 (by decide) ?_
    exact wp_return dX12_readBraid_168 rfl ⟨rfl, rfl⟩ ⟨rfl, (h.2 c1).2⟩
set_option maxHeartbeats 4000000 in
set_option maxRecDepth 10000 in
theorem sX12_work {K : KK} {d : Nat} {V : Mem} {Q : Option AV → Mem → Prop}  (h : Mf K d mX12_cutAll [vR 369] (upm V 369 0 0) (fun r V1 => r = none ∧ Wf K (d + 1) mX12_work 11 [some (vR 369), some (vI 0), none, none] [] V1 Q)) : Mf K (d + 1) mX12_work [vR 369] V Q := by
  refine Mt.of2 (L := [some (vR 369), none, none, none]) pnX12 rfl rfl ?_
  refine wp_aload_n dX12_work_0 rfl rfl ?_
  refine wp_iconst dX12_work_1 (by decide) ?_
  refine wp_putI dX12_work_2 fwX12_1 rfl sh369 (by decide) ?_
  refine wp_aload_n dX12_work_5 rfl rfl ?_
  refine wp_callV (S := []) (as := []) dX12_work_6 lX12_213 (h) (by omega) sh369 rfl rfl (Nat.le_of_ble_eq_true rfl) ⟨Nat.le_refl _, Nat.le_refl _⟩ ?_
  rintro _ _ V1 ⟨rfl, rfl, q1⟩
  show Wp _ _ _ _ _ 9 _ [] _ _ _ _ _
  refine wp_iconst dX12_work_9 (by decide) ?_
  refine wp_istore_n dX12_work_10 rfl (by decide) rfl ?_
  exact q1
set_option maxHeartbeats 4000000 in
set_option maxRecDepth 10000 in
theorem sX12_work_11 {K : KK} {d : Nat} {V : Mem} {Q : Option AV → Mem → Prop} (x1 : Int) (h : ((¬ (V 369 8) = 0 → Wf K (d + 1) mX12_work 194 [some (vR 369), some (vI x1), none, none] [] V Q) ∧ ((V 369 8) = 0 → (((0 : Int) ≤ (V 369 7) ∧ (V 369 7) < (1002 : Nat)) ∧ (((V 371 (Int.toNat (V 369 7))) = 0 → Wf K (d + 1) mX12_work 194 [some (vR 369), some (vI x1), none, none] [] V Q) ∧ (¬ ((V 371 (Int.toNat (V 369 7))) = 0) → Mf K d mX12_wordHere [vR 369, vI 3, vI 5] V (fun r V3 => ∃ z3, r = some (vI z3) ∧ ((0 ≤ z3 → ((¬ x1 = 30 → (((0 : Int) ≤ (w32 (95 + (w32 (3 * x1)))) ∧ (w32 (95 + (w32 (3 * x1)))) < (190 : Nat)) ∧ ((3 ≤ z3 → Mf K d mX12_takeTold [vR 369, vI 4, vI ((upm (upm V3 369 7 (w32 ((V3 369 7) + 1))) 378 (Int.toNat (w32 (95 + (w32 (3 * x1))))) z3) 375 1)] (upm (upm V3 369 7 (w32 ((V3 369 7) + 1))) 378 (Int.toNat (w32 (95 + (w32 (3 * x1))))) z3) (fun r V7 => ∃ z7, r = some (vI z7) ∧ Wf K (d + 1) mX12_work 124 [some (vR 369), some (vI x1), some (vI z3), some (vI (w32 (95 + (w32 (3 * x1)))))] [vI z7, vI (w32 ((w32 (95 + (w32 (3 * x1)))) + 1)), vR 378] V7 Q)) ∧ (¬ (3 ≤ z3) → Mf K d mX12_takeTold [vR 369, vI 0, vI ((upm (upm V3 369 7 (w32 ((V3 369 7) + 1))) 378 (Int.toNat (w32 (95 + (w32 (3 * x1))))) z3) 375 0)] (upm (upm V3 369 7 (w32 ((V3 369 7) + 1))) 378 (Int.toNat (w32 (95 + (w32 (3 * x1))))) z3) (fun r V8 => ∃ z8, r = some (vI z8) ∧ Wf K (d + 1) mX12_work 124 [some (vR 369), some (vI x1), some (vI z3), some (vI (w32 (95 + (w32 (3 * x1)))))] [vI z8, vI (w32 ((w32 (95 + (w32 (3 * x1)))) + 1)), vR 378] V8 Q))))) ∧ (x1 = 30 → ((¬ (V3 369 8) = 0 → Wf K (d + 1) mX12_work 185 [some (vR 369), some (vI x1), none, none] [] V3 Q) ∧ ((V3 369 8) = 0 → (((0 : Int) ≤ (V3 369 7) ∧ (V3 369 7) < (1002 : Nat)) ∧ Wf K (d + 1) mX12_work 185 [some (vR 369), some (vI x1), none, none] [] (upm V3 369 8 (w32 (5 + (w32 (16 * (V3 372 (Int.toNat (V3 369 7)))))))) Q)))))) ∧ (¬ (0 ≤ z3) → ((¬ (V3 369 8) = 0 → Wf K (d + 1) mX12_work 185 [some (vR 369), some (vI x1), none, none] [] V3 Q) ∧ ((V3 369 8) = 0 → (((0 : Int) ≤ (V3 369 7) ∧ (V3 369 7) < (1002 : Nat)) ∧ Wf K (d + 1) mX12_work 185 [some (vR 369), some (vI x1), none, none] [] (upm V3 369 8 (w32 (1 + (w32 (16 * (V3 372 (Int.toNat (V3 369 7)))))))) Q)))))))))))) : Wf K (d + 1) mX12_work 11 [some (vR 369), some (vI x1), none, none] [] V Q := by
  refine wp_aload_n dX12_work_11 rfl rfl ?_
  refine wp_getI dX12_work_12 fX12_187 rfl sh369 (by decide) ?_
  refine wp_if_ne (tgt := 194) dX12_work_15 rfl (fun c1 => ?_) (fun c1 => ?_)
  ·
    exact (h.1 c1)
  ·
    refine wp_aload_n dX12_work_18 rfl rfl ?_
    refine wp_getR (b := 371) dX12_work_19 fX12_24 rfl sh369 (by decide) rfl ?_
    refine wp_aload_n dX12_work_22 rfl rfl ?_
    refine wp_getI dX12_work_23 fX12_184 rfl sh369 (by decide) ?_
    refine wp_iald dX12_work_26 sh371 (h.2 c1).1 ?_
    refine wp_if_eq (tgt := 194) dX12_work_27 rfl (fun c2 => ?_) (fun c2 => ?_)
    ·
      exact ((h.2 c1).2.1 c2)
    ·
      refine wp_aload_n dX12_work_30 rfl rfl ?_
      refine wp_iconst dX12_work_31 (by decide) ?_
      refine wp_iconst dX12_work_32 (by decide) ?_
      refine wp_callV (S := []) (as := [vI 3, vI 5]) dX12_work_33 lX12_202 (((h.2 c1).2.2 c2)) (by omega) sh369 rfl rfl (Nat.le_of_ble_eq_true rfl) ⟨Nat.le_refl _, Nat.le_refl _⟩ ?_
      rintro _ _ V3 ⟨rfl, z3, rfl, q3⟩
      show Wp _ _ _ _ _ 36 _ [vI z3] _ _ _ _ _
      refine wp_istore_n dX12_work_36 rfl (by decide) rfl ?_
      refine wp_iload_n dX12_work_37 rfl rfl ?_
      refine wp_if_ge (tgt := 49) dX12_work_38 rfl (fun c4 => ?_) (fun c4 => ?_)
      ·
        refine wp_iload_n dX12_work_49 rfl rfl ?_
        refine wp_bipush dX12_work_50 (by decide) ?_
        refine wp_icmp_ne (tgt := 63) dX12_work_52 rfl (fun c5 => ?_) (fun c5 => ?_)
        ·
          refine wp_aload_n dX12_work_63 rfl rfl ?_
          refine wp_dup dX12_work_64 rfl ?_
          refine wp_getI dX12_work_65 fX12_184 rfl sh369 (by decide) ?_
          refine wp_iconst dX12_work_68 (by decide) ?_
          refine wp_iadd dX12_work_69 ?_
          refine wp_putI dX12_work_70 fwX12_184 rfl sh369 (by decide) ?_
          refine wp_bipush dX12_work_73 (by decide) ?_
          refine wp_iconst dX12_work_75 (by decide) ?_
          refine wp_iload_n dX12_work_76 rfl rfl ?_
          refine wp_imul dX12_work_77 ?_
          refine wp_iadd dX12_work_78 ?_
          refine wp_istore_n dX12_work_79 rfl (by decide) rfl ?_
          refine wp_aload_n dX12_work_80 rfl rfl ?_
          refine wp_getR (b := 378) dX12_work_81 fX12_84 rfl sh369 (by decide) rfl ?_
          refine wp_iload_n dX12_work_84 rfl rfl ?_
          refine wp_iload_n dX12_work_85 rfl rfl ?_
          refine wp_iast dX12_work_86 sh378 ((q3.1 c4).1 c5).1 ?_
          refine wp_aload_n dX12_work_87 rfl rfl ?_
          refine wp_getR (b := 378) dX12_work_88 fX12_84 rfl sh369 (by decide) rfl ?_
          refine wp_iload_n dX12_work_91 rfl rfl ?_
          refine wp_iconst dX12_work_92 (by decide) ?_
          refine wp_iadd dX12_work_93 ?_
          refine wp_iload_n dX12_work_94 rfl rfl ?_
          refine wp_iconst dX12_work_95 (by decide) ?_
          refine wp_icmp_ge (tgt := 113) dX12_work_96 rfl (fun c6 => ?_) (fun c6 => ?_)
          ·
            refine wp_aload_n dX12_work_113 rfl rfl ?_
            refine wp_iconst dX12_work_114 (by decide) ?_
            refine wp_aload_n dX12_work_115 rfl rfl ?_
            refine wp_getR (b := 375) dX12_work_116 fX12_75 rfl sh369 (by decide) rfl ?_
            refine wp_iconst dX12_work_119 (by decide) ?_
            refine wp_iald dX12_work_120 sh375 (by decide) ?_
            refine wp_callV (S := [vI (w32 ((w32 (95 + (w32 (3 * x1)))) + 1)), vR 378]) (as := [vI 4, vI ((upm (upm V3 369 7 (w32 ((V3 369 7) + 1))) 378 (Int.toNat (w32 (95 + (w32 (3 * x1))))) z3) 375 1)]) dX12_work_121 lX12_250 ((((q3.1 c4).1 c5).2.1 c6)) (by omega) sh369 rfl rfl (Nat.le_of_ble_eq_true rfl) ⟨Nat.le_refl _, Nat.le_refl _⟩ ?_
            rintro _ _ V7 ⟨rfl, z7, rfl, q7⟩
            show Wp _ _ _ _ _ 124 _ [vI z7, vI (w32 ((w32 (95 + (w32 (3 * x1)))) + 1)), vR 378] _ _ _ _ _
            exact q7
          ·
            refine wp_aload_n dX12_work_99 rfl rfl ?_
            refine wp_iconst dX12_work_100 (by decide) ?_
            refine wp_aload_n dX12_work_101 rfl rfl ?_
            refine wp_getR (b := 375) dX12_work_102 fX12_75 rfl sh369 (by decide) rfl ?_
            refine wp_iconst dX12_work_105 (by decide) ?_
            refine wp_iald dX12_work_106 sh375 (by decide) ?_
            refine wp_callV (S := [vI (w32 ((w32 (95 + (w32 (3 * x1)))) + 1)), vR 378]) (as := [vI 0, vI ((upm (upm V3 369 7 (w32 ((V3 369 7) + 1))) 378 (Int.toNat (w32 (95 + (w32 (3 * x1))))) z3) 375 0)]) dX12_work_107 lX12_250 ((((q3.1 c4).1 c5).2.2 c6)) (by omega) sh369 rfl rfl (Nat.le_of_ble_eq_true rfl) ⟨Nat.le_refl _, Nat.le_refl _⟩ ?_
            rintro _ _ V8 ⟨rfl, z8, rfl, q8⟩
            show Wp _ _ _ _ _ 110 _ [vI z8, vI (w32 ((w32 (95 + (w32 (3 * x1)))) + 1)), vR 378] _ _ _ _ _
            refine wp_goto (tgt := 124) dX12_work_110 rfl ?_
            exact q8
        ·
          refine wp_aload_n dX12_work_55 rfl rfl ?_
          refine wp_iconst dX12_work_56 (by decide) ?_
          refine wp_inlV (d' := d) (S := []) (as := [vI 5]) dX12_work_57 lX12_193 (by omega) sh369 rfl rfl (Nat.le_of_ble_eq_true rfl) ⟨Nat.le_refl _, Nat.le_refl _⟩ (Mt.of2 (L := [some (vR 369), some (vI 5)]) pnX12 rfl rfl ?_)
          refine wp_aload_n dX12_wrong_0 rfl rfl ?_
          refine wp_getI dX12_wrong_1 fX12_187 rfl sh369 (by decide) ?_
          refine wp_if_ne (tgt := 25) dX12_wrong_4 rfl (fun c9 => ?_) (fun c9 => ?_)
          ·
            refine wp_return dX12_wrong_25 rfl ⟨rfl, rfl⟩ ?_
            show Wp _ _ _ _ _ 60 _ [] _ _ _ _ _
            refine wp_goto (tgt := 185) dX12_work_60 rfl ?_
            exact wp_loc (L2 := [some (vR 369), some (vI x1), none, none]) ⟨rfl, ⟨rfl, trivial⟩⟩ (((q3.1 c4).2 c5).1 c9)
          ·
            refine wp_aload_n dX12_wrong_7 rfl rfl ?_
            refine wp_iload_n dX12_wrong_8 rfl rfl ?_
            refine wp_bipush dX12_wrong_9 (by decide) ?_
            refine wp_aload_n dX12_wrong_11 rfl rfl ?_
            refine wp_getR (b := 372) dX12_wrong_12 fX12_27 rfl sh369 (by decide) rfl ?_
            refine wp_aload_n dX12_wrong_15 rfl rfl ?_
            refine wp_getI dX12_wrong_16 fX12_184 rfl sh369 (by decide) ?_
            refine wp_iald dX12_wrong_19 sh372 (((q3.1 c4).2 c5).2 c9).1 ?_
            refine wp_imul dX12_wrong_20 ?_
            refine wp_iadd dX12_wrong_21 ?_
            refine wp_putI dX12_wrong_22 fwX12_187 rfl sh369 (by decide) ?_
            refine wp_return dX12_wrong_25 rfl ⟨rfl, rfl⟩ ?_
            show Wp _ _ _ _ _ 60 _ [] _ _ _ _ _
            refine wp_goto (tgt := 185) dX12_work_60 rfl ?_
            exact wp_loc (L2 := [some (vR 369), some (vI x1), none, none]) ⟨rfl, ⟨rfl, trivial⟩⟩ (((q3.1 c4).2 c5).2 c9).2
      ·
        refine wp_aload_n dX12_work_41 rfl rfl ?_
        refine wp_iconst dX12_work_42 (by decide) ?_
        refine wp_inlV (d' := d) (S := []) (as := [vI 1]) dX12_work_43 lX12_193 (by omega) sh369 rfl rfl (Nat.le_of_ble_eq_true rfl) ⟨Nat.le_refl _, Nat.le_refl _⟩ (Mt.of2 (L := [some (vR 369), some (vI 1)]) pnX12 rfl rfl ?_)
        refine wp_aload_n dX12_wrong_0 rfl rfl ?_
        refine wp_getI dX12_wrong_1 fX12_187 rfl sh369 (by decide) ?_
        refine wp_if_ne (tgt := 25) dX12_wrong_4 rfl (fun c10 => ?_) (fun c10 => ?_)
        ·
          refine wp_return dX12_wrong_25 rfl ⟨rfl, rfl⟩ ?_
          show Wp _ _ _ _ _ 46 _ [] _ _ _ _ _
          refine wp_goto (tgt := 185) dX12_work_46 rfl ?_
          exact wp_loc (L2 := [some (vR 369), some (vI x1), none, none]) ⟨rfl, ⟨rfl, trivial⟩⟩ ((q3.2 c4).1 c10)
        ·
          refine wp_aload_n dX12_wrong_7 rfl rfl ?_
          refine wp_iload_n dX12_wrong_8 rfl rfl ?_
          refine wp_bipush dX12_wrong_9 (by decide) ?_
          refine wp_aload_n dX12_wrong_11 rfl rfl ?_
          refine wp_getR (b := 372) dX12_wrong_12 fX12_27 rfl sh369 (by decide) rfl ?_
          refine wp_aload_n dX12_wrong_15 rfl rfl ?_
          refine wp_getI dX12_wrong_16 fX12_184 rfl sh369 (by decide) ?_
          refine wp_iald dX12_wrong_19 sh372 ((q3.2 c4).2 c10).1 ?_
          refine wp_imul dX12_wrong_20 ?_
          refine wp_iadd dX12_wrong_21 ?_
          refine wp_putI dX12_wrong_22 fwX12_187 rfl sh369 (by decide) ?_
          refine wp_return dX12_wrong_25 rfl ⟨rfl, rfl⟩ ?_
          show Wp _ _ _ _ _ 46 _ [] _ _ _ _ _
          refine wp_goto (tgt := 185) dX12_work_46 rfl ?_
          exact wp_loc (L2 := [some (vR 369), some (vI x1), none, none]) ⟨rfl, ⟨rfl, trivial⟩⟩ ((q3.2 c4).2 c10).2
set_option maxHeartbeats 4000000 in
set_option maxRecDepth 10000 in
theorem sX12_work_194 {K : KK} {d : Nat} {V : Mem} {Q : Option AV → Mem → Prop} (x1 : Int) (h : (((V 369 8) ≤ 0 → Wf K (d + 1) mX12_work 215 [some (vR 369), some (vI x1), some (vI 0), none] [] (upm V 378 0 x1) Q) ∧ (¬ ((V 369 8) ≤ 0) → Q (some (vI (V 369 8))) V))) : Wf K (d + 1) mX12_work 194 [some (vR 369), some (vI x1), none, none] [] V Q := by
  refine wp_aload_n dX12_work_194 rfl rfl ?_
  refine wp_getI dX12_work_195 fX12_187 rfl sh369 (by decide) ?_
  refine wp_if_le (tgt := 206) dX12_work_198 rfl (fun c1 => ?_) (fun c1 => ?_)
  ·
    refine wp_aload_n dX12_work_206 rfl rfl ?_
    refine wp_getR (b := 378) dX12_work_207 fX12_84 rfl sh369 (by decide) rfl ?_
    refine wp_iconst dX12_work_210 (by decide) ?_
    refine wp_iload_n dX12_work_211 rfl rfl ?_
    refine wp_iast dX12_work_212 sh378 (by decide) ?_
    refine wp_iconst dX12_work_213 (by decide) ?_
    refine wp_istore_n dX12_work_214 rfl (by decide) rfl ?_
    exact (h.1 c1)
  ·
    refine wp_aload_n dX12_work_201 rfl rfl ?_
    refine wp_getI dX12_work_202 fX12_187 rfl sh369 (by decide) ?_
    exact wp_ireturn dX12_work_205 rfl ⟨rfl, rfl⟩ ⟨rfl, (h.2 c1)⟩
set_option maxHeartbeats 4000000 in
set_option maxRecDepth 10000 in
theorem sX12_work_124 {K : KK} {d : Nat} {V : Mem} {Q : Option AV → Mem → Prop} (x1 : Int) (x2 : Int) (x3 : Int) (s1 : Int) (s2 : Int) (h : (((0 : Int) ≤ s1 ∧ s1 < (190 : Nat)) ∧ ((¬ x2 = 0 → ((¬ x2 = 3 → ((¬ x2 = 4 → Wf K (d + 1) mX12_work 181 [some (vR 369), some (vI x1), none, none] [vI 0, vI (w32 (x3 + 2)), vR 378] (upm V 378 (Int.toNat s1) s2) Q) ∧ (x2 = 4 → Mf K d mX12_takeTold [vR 369, vI 4, vI ((upm V 378 (Int.toNat s1) s2) 375 1)] (upm V 378 (Int.toNat s1) s2) (fun r V4 => ∃ z4, r = some (vI z4) ∧ Wf K (d + 1) mX12_work 181 [some (vR 369), some (vI x1), none, none] [vI z4, vI (w32 (x3 + 2)), vR 378] V4 Q)))) ∧ (x2 = 3 → Mf K d mX12_takeNumber [vR 369, vI 0, vI 8] (upm V 378 (Int.toNat s1) s2) (fun r V5 => ∃ z5, r = some (vI z5) ∧ Wf K (d + 1) mX12_work 181 [some (vR 369), some (vI x1), none, none] [vI z5, vI (w32 (x3 + 2)), vR 378] V5 Q)))) ∧ (x2 = 0 → Mf K d mX12_takeNumber [vR 369, vI 0, vI 99] (upm V 378 (Int.toNat s1) s2) (fun r V6 => ∃ z6, r = some (vI z6) ∧ Wf K (d + 1) mX12_work 181 [some (vR 369), some (vI x1), none, none] [vI z6, vI (w32 (x3 + 2)), vR 378] V6 Q))))) : Wf K (d + 1) mX12_work 124 [some (vR 369), some (vI x1), some (vI x2), some (vI x3)] [vI s2, vI s1, vR 378] V Q := by
  refine wp_iast dX12_work_124 sh378 h.1 ?_
  refine wp_aload_n dX12_work_125 rfl rfl ?_
  refine wp_getR (b := 378) dX12_work_126 fX12_84 rfl sh369 (by decide) rfl ?_
  refine wp_iload_n dX12_work_129 rfl rfl ?_
  refine wp_iconst dX12_work_130 (by decide) ?_
  refine wp_iadd dX12_work_131 ?_
  refine wp_iload_n dX12_work_132 rfl rfl ?_
  refine wp_if_ne (tgt := 146) dX12_work_133 rfl (fun c1 => ?_) (fun c1 => ?_)
  ·
    refine wp_iload_n dX12_work_146 rfl rfl ?_
    refine wp_iconst dX12_work_147 (by decide) ?_
    refine wp_icmp_ne (tgt := 161) dX12_work_148 rfl (fun c2 => ?_) (fun c2 => ?_)
    ·
      refine wp_iload_n dX12_work_161 rfl rfl ?_
      refine wp_iconst dX12_work_162 (by decide) ?_
      refine wp_icmp_ne (tgt := 180) dX12_work_163 rfl (fun c3 => ?_) (fun c3 => ?_)
      ·
        refine wp_iconst dX12_work_180 (by decide) ?_
        exact wp_loc (L2 := [some (vR 369), some (vI x1), none, none]) ⟨rfl, ⟨rfl, trivial⟩⟩ (((h.2.1 c1).1 c2).1 c3)
      ·
        refine wp_aload_n dX12_work_166 rfl rfl ?_
        refine wp_iconst dX12_work_167 (by decide) ?_
        refine wp_aload_n dX12_work_168 rfl rfl ?_
        refine wp_getR (b := 375) dX12_work_169 fX12_75 rfl sh369 (by decide) rfl ?_
        refine wp_iconst dX12_work_172 (by decide) ?_
        refine wp_iald dX12_work_173 sh375 (by decide) ?_
        refine wp_callV (S := [vI (w32 (x3 + 2)), vR 378]) (as := [vI 4, vI ((upm V 378 (Int.toNat s1) s2) 375 1)]) dX12_work_174 lX12_250 ((((h.2.1 c1).1 c2).2 c3)) (by omega) sh369 rfl rfl (Nat.le_of_ble_eq_true rfl) ⟨Nat.le_refl _, Nat.le_refl _⟩ ?_
        rintro _ _ V4 ⟨rfl, z4, rfl, q4⟩
        show Wp _ _ _ _ _ 177 _ [vI z4, vI (w32 (x3 + 2)), vR 378] _ _ _ _ _
        refine wp_goto (tgt := 181) dX12_work_177 rfl ?_
        exact wp_loc (L2 := [some (vR 369), some (vI x1), none, none]) ⟨rfl, ⟨rfl, trivial⟩⟩ q4
    ·
      refine wp_aload_n dX12_work_151 rfl rfl ?_
      refine wp_iconst dX12_work_152 (by decide) ?_
      refine wp_bipush dX12_work_153 (by decide) ?_
      refine wp_callV (S := [vI (w32 (x3 + 2)), vR 378]) (as := [vI 0, vI 8]) dX12_work_155 lX12_247 (((h.2.1 c1).2 c2)) (by omega) sh369 rfl rfl (Nat.le_of_ble_eq_true rfl) ⟨Nat.le_refl _, Nat.le_refl _⟩ ?_
      rintro _ _ V5 ⟨rfl, z5, rfl, q5⟩
      show Wp _ _ _ _ _ 158 _ [vI z5, vI (w32 (x3 + 2)), vR 378] _ _ _ _ _
      refine wp_goto (tgt := 181) dX12_work_158 rfl ?_
      exact wp_loc (L2 := [some (vR 369), some (vI x1), none, none]) ⟨rfl, ⟨rfl, trivial⟩⟩ q5
  ·
    refine wp_aload_n dX12_work_136 rfl rfl ?_
    refine wp_iconst dX12_work_137 (by decide) ?_
    refine wp_bipush dX12_work_138 (by decide) ?_
    refine wp_callV (S := [vI (w32 (x3 + 2)), vR 378]) (as := [vI 0, vI 99]) dX12_work_140 lX12_247 ((h.2.2 c1)) (by omega) sh369 rfl rfl (Nat.le_of_ble_eq_true rfl) ⟨Nat.le_refl _, Nat.le_refl _⟩ ?_
    rintro _ _ V6 ⟨rfl, z6, rfl, q6⟩
    show Wp _ _ _ _ _ 143 _ [vI z6, vI (w32 (x3 + 2)), vR 378] _ _ _ _ _
    refine wp_goto (tgt := 181) dX12_work_143 rfl ?_
    exact wp_loc (L2 := [some (vR 369), some (vI x1), none, none]) ⟨rfl, ⟨rfl, trivial⟩⟩ q6
set_option maxHeartbeats 4000000 in
set_option maxRecDepth 10000 in
theorem sX12_work_185 {K : KK} {d : Nat} {V : Mem} {Q : Option AV → Mem → Prop} (x1 : Int) (h : Mf K d mX12_takeSign [vR 369, vI 59] V (fun r V1 => r = none ∧ Wf K (d + 1) mX12_work 11 [some (vR 369), some (vI x1), none, none] [] V1 Q)) : Wf K (d + 1) mX12_work 185 [some (vR 369), some (vI x1), none, none] [] V Q := by
  refine wp_aload_n dX12_work_185 rfl rfl ?_
  refine wp_bipush dX12_work_186 (by decide) ?_
  refine wp_callV (S := []) (as := [vI 59]) dX12_work_188 lX12_222 (h) (by omega) sh369 rfl rfl (Nat.le_of_ble_eq_true rfl) ⟨Nat.le_refl _, Nat.le_refl _⟩ ?_
  rintro _ _ V1 ⟨rfl, rfl, q1⟩
  show Wp _ _ _ _ _ 191 _ [] _ _ _ _ _
  refine wp_goto (tgt := 11) dX12_work_191 rfl ?_
  exact q1
set_option maxHeartbeats 4000000 in
set_option maxRecDepth 10000 in
theorem sX12_work_215 {K : KK} {d : Nat} {V : Mem} {Q : Option AV → Mem → Prop} (x1 : Int) (x2 : Int) (h : (((w32 (3 * x1)) ≤ x2 → Q (some (vI 0)) V) ∧ (¬ ((w32 (3 * x1)) ≤ x2) → (((0 : Int) ≤ (w32 (95 + x2)) ∧ (w32 (95 + x2)) < (190 : Nat)) ∧ (((0 : Int) ≤ (w32 (1 + x2)) ∧ (w32 (1 + x2)) < (190 : Nat)) ∧ Wf K (d + 1) mX12_work 215 [some (vR 369), some (vI x1), some (vI (w32 (x2 + 1))), none] [] (upm V 378 (Int.toNat (w32 (1 + x2))) (V 378 (Int.toNat (w32 (95 + x2))))) Q))))) : Wf K (d + 1) mX12_work 215 [some (vR 369), some (vI x1), some (vI x2), none] [] V Q := by
  refine wp_iload_n dX12_work_215 rfl rfl ?_
  refine wp_iconst dX12_work_216 (by decide) ?_
  refine wp_iload_n dX12_work_217 rfl rfl ?_
  refine wp_imul dX12_work_218 ?_
  refine wp_icmp_ge (tgt := 245) dX12_work_219 rfl (fun c1 => ?_) (fun c1 => ?_)
  ·
    refine wp_iconst dX12_work_245 (by decide) ?_
    exact wp_ireturn dX12_work_246 rfl ⟨rfl, rfl⟩ ⟨rfl, (h.1 c1)⟩
  ·
    refine wp_aload_n dX12_work_222 rfl rfl ?_
    refine wp_getR (b := 378) dX12_work_223 fX12_84 rfl sh369 (by decide) rfl ?_
    refine wp_iconst dX12_work_226 (by decide) ?_
    refine wp_iload_n dX12_work_227 rfl rfl ?_
    refine wp_iadd dX12_work_228 ?_
    refine wp_aload_n dX12_work_229 rfl rfl ?_
    refine wp_getR (b := 378) dX12_work_230 fX12_84 rfl sh369 (by decide) rfl ?_
    refine wp_bipush dX12_work_233 (by decide) ?_
    refine wp_iload_n dX12_work_235 rfl rfl ?_
    refine wp_iadd dX12_work_236 ?_
    refine wp_iald dX12_work_237 sh378 (h.2 c1).1 ?_
    refine wp_iast dX12_work_238 sh378 (h.2 c1).2.1 ?_
    refine wp_iinc dX12_work_239 rfl rfl ?_
    refine wp_goto (tgt := 215) dX12_work_242 rfl ?_
    exact (h.2 c1).2.2
set_option maxHeartbeats 4000000 in
set_option maxRecDepth 10000 in
theorem sX12_work_181 {K : KK} {d : Nat} {V : Mem} {Q : Option AV → Mem → Prop} (x1 : Int) (s1 : Int) (s2 : Int) (h : (((0 : Int) ≤ s1 ∧ s1 < (190 : Nat)) ∧ Wf K (d + 1) mX12_work 185 [some (vR 369), some (vI (w32 (x1 + 1))), none, none] [] (upm V 378 (Int.toNat s1) s2) Q)) : Wf K (d + 1) mX12_work 181 [some (vR 369), some (vI x1), none, none] [vI s2, vI s1, vR 378] V Q := by
  refine wp_iast dX12_work_181 sh378 h.1 ?_
  refine wp_iinc dX12_work_182 rfl rfl ?_
  exact h.2
set_option maxHeartbeats 4000000 in
set_option maxRecDepth 10000 in
theorem sX12_emit {K : KK} {d : Nat} {V : Mem} {Q : Option AV → Mem → Prop} (x1 : Int) (x2 : Int) (h : (((0 : Int) ≤ (w32 (1100 + (V 369 12))) ∧ (w32 (1100 + (V 369 12))) < (2200 : Nat)) ∧ Q none (upm (upm V 376 (Int.toNat (w32 (1100 + (V 369 12)))) (w32 (x1 + (w32 (16 * x2))))) 369 12 (w32 (((upm V 376 (Int.toNat (w32 (1100 + (V 369 12)))) (w32 (x1 + (w32 (16 * x2))))) 369 12) + 1))))) : Mf K d mX12_emit [vR 369, vI x1, vI x2] V Q := by
  refine Mt.of2 (L := [some (vR 369), some (vI x1), some (vI x2)]) pnX12 rfl rfl ?_
  refine wp_aload_n dX12_emit_0 rfl rfl ?_
  refine wp_getR (b := 376) dX12_emit_1 fX12_78 rfl sh369 (by decide) rfl ?_
  refine wp_sipush dX12_emit_4 (by decide) ?_
  refine wp_aload_n dX12_emit_7 rfl rfl ?_
  refine wp_getI dX12_emit_8 fX12_216 rfl sh369 (by decide) ?_
  refine wp_iadd dX12_emit_11 ?_
  refine wp_iload_n dX12_emit_12 rfl rfl ?_
  refine wp_bipush dX12_emit_13 (by decide) ?_
  refine wp_iload_n dX12_emit_15 rfl rfl ?_
  refine wp_imul dX12_emit_16 ?_
  refine wp_iadd dX12_emit_17 ?_
  refine wp_iast dX12_emit_18 sh376 h.1 ?_
  refine wp_aload_n dX12_emit_19 rfl rfl ?_
  refine wp_dup dX12_emit_20 rfl ?_
  refine wp_getI dX12_emit_21 fX12_216 rfl sh369 (by decide) ?_
  refine wp_iconst dX12_emit_24 (by decide) ?_
  refine wp_iadd dX12_emit_25 ?_
  refine wp_putI dX12_emit_26 fwX12_216 rfl sh369 (by decide) ?_
  exact wp_return dX12_emit_29 rfl ⟨rfl, rfl⟩ ⟨rfl, h.2⟩
set_option maxHeartbeats 4000000 in
set_option maxRecDepth 10000 in
theorem sX12_allOf {K : KK} {d : Nat} {V : Mem} {Q : Option AV → Mem → Prop} (x1 : Int) (h : Mf K d mX12_test [vR 369, vI x1] V (fun r V1 => r = none ∧ Wf K (d + 1) mX12_allOf 5 [some (vR 369), some (vI x1), none] [] V1 Q)) : Mf K (d + 1) mX12_allOf [vR 369, vI x1] V Q := by
  refine Mt.of2 (L := [some (vR 369), some (vI x1), none]) pnX12 rfl rfl ?_
  refine wp_aload_n dX12_allOf_0 rfl rfl ?_
  refine wp_iload_n dX12_allOf_1 rfl rfl ?_
  refine wp_callV (S := []) (as := [vI x1]) dX12_allOf_2 lX12_253 (h) (by omega) sh369 rfl rfl (Nat.le_of_ble_eq_true rfl) ⟨Nat.le_refl _, Nat.le_refl _⟩ ?_
  rintro _ _ V1 ⟨rfl, rfl, q1⟩
  show Wp _ _ _ _ _ 5 _ [] _ _ _ _ _
  exact q1
set_option maxHeartbeats 4000000 in
set_option maxRecDepth 10000 in
theorem sX12_allOf_5 {K : KK} {d : Nat} {V : Mem} {Q : Option AV → Mem → Prop} (x1 : Int) (h : Mf K d mX12_isWord [vR 369, vI 13] V (fun r V1 => ∃ z1, r = some (vI z1) ∧ ((¬ z1 = 0 → Wf K (d + 1) mX12_allOf 23 [some (vR 369), some (vI x1), none] [] V1 Q) ∧ (z1 = 0 → Mf K d mX12_isWord [vR 369, vI 14] V1 (fun r V3 => ∃ z3, r = some (vI z3) ∧ ((z3 = 0 → Q none V3) ∧ (¬ (z3 = 0) → Wf K (d + 1) mX12_allOf 23 [some (vR 369), some (vI x1), none] [] V3 Q))))))) : Wf K (d + 1) mX12_allOf 5 [some (vR 369), some (vI x1), none] [] V Q := by
  refine wp_aload_n dX12_allOf_5 rfl rfl ?_
  refine wp_bipush dX12_allOf_6 (by decide) ?_
  refine wp_callV (S := []) (as := [vI 13]) dX12_allOf_8 lX12_196 (h) (by omega) sh369 rfl rfl (Nat.le_of_ble_eq_true rfl) ⟨Nat.le_refl _, Nat.le_refl _⟩ ?_
  rintro _ _ V1 ⟨rfl, z1, rfl, q1⟩
  show Wp _ _ _ _ _ 11 _ [vI z1] _ _ _ _ _
  refine wp_if_ne (tgt := 23) dX12_allOf_11 rfl (fun c2 => ?_) (fun c2 => ?_)
  ·
    exact (q1.1 c2)
  ·
    refine wp_aload_n dX12_allOf_14 rfl rfl ?_
    refine wp_bipush dX12_allOf_15 (by decide) ?_
    refine wp_callV (S := []) (as := [vI 14]) dX12_allOf_17 lX12_196 ((q1.2 c2)) (by omega) sh369 rfl rfl (Nat.le_of_ble_eq_true rfl) ⟨Nat.le_refl _, Nat.le_refl _⟩ ?_
    rintro _ _ V3 ⟨rfl, z3, rfl, q3⟩
    show Wp _ _ _ _ _ 20 _ [vI z3] _ _ _ _ _
    refine wp_if_eq (tgt := 64) dX12_allOf_20 rfl (fun c4 => ?_) (fun c4 => ?_)
    ·
      exact wp_return dX12_allOf_64 rfl ⟨rfl, rfl⟩ ⟨rfl, (q3.1 c4)⟩
    ·
      exact (q3.2 c4)
set_option maxHeartbeats 4000000 in
set_option maxRecDepth 10000 in
theorem sX12_allOf_23 {K : KK} {d : Nat} {V : Mem} {Q : Option AV → Mem → Prop} (x1 : Int) (h : Mf K d mX12_isWord [vR 369, vI 13] V (fun r V1 => ∃ z1, r = some (vI z1) ∧ Mf K d mX12_test [vR 369, vI x1] (upm V1 369 7 (w32 ((V1 369 7) + 1))) (fun r V2 => r = none ∧ ((z1 = 0 → Wf K (d + 1) mX12_allOf 57 [some (vR 369), some (vI x1), none] [vI 10, vR 369] V2 Q) ∧ (¬ (z1 = 0) → Wf K (d + 1) mX12_allOf 57 [some (vR 369), some (vI x1), none] [vI 9, vR 369] V2 Q))))) : Wf K (d + 1) mX12_allOf 23 [some (vR 369), some (vI x1), none] [] V Q := by
  refine wp_aload_n dX12_allOf_23 rfl rfl ?_
  refine wp_bipush dX12_allOf_24 (by decide) ?_
  refine wp_callV (S := []) (as := [vI 13]) dX12_allOf_26 lX12_196 (h) (by omega) sh369 rfl rfl (Nat.le_of_ble_eq_true rfl) ⟨Nat.le_refl _, Nat.le_refl _⟩ ?_
  rintro _ _ V1 ⟨rfl, z1, rfl, q1⟩
  show Wp _ _ _ _ _ 29 _ [vI z1] _ _ _ _ _
  refine wp_istore_n dX12_allOf_29 rfl (by decide) rfl ?_
  refine wp_aload_n dX12_allOf_30 rfl rfl ?_
  refine wp_dup dX12_allOf_31 rfl ?_
  refine wp_getI dX12_allOf_32 fX12_184 rfl sh369 (by decide) ?_
  refine wp_iconst dX12_allOf_35 (by decide) ?_
  refine wp_iadd dX12_allOf_36 ?_
  refine wp_putI dX12_allOf_37 fwX12_184 rfl sh369 (by decide) ?_
  refine wp_aload_n dX12_allOf_40 rfl rfl ?_
  refine wp_iload_n dX12_allOf_41 rfl rfl ?_
  refine wp_callV (S := []) (as := [vI x1]) dX12_allOf_42 lX12_253 (q1) (by omega) sh369 rfl rfl (Nat.le_of_ble_eq_true rfl) ⟨Nat.le_refl _, Nat.le_refl _⟩ ?_
  rintro _ _ V2 ⟨rfl, rfl, q2⟩
  show Wp _ _ _ _ _ 45 _ [] _ _ _ _ _
  refine wp_aload_n dX12_allOf_45 rfl rfl ?_
  refine wp_iload_n dX12_allOf_46 rfl rfl ?_
  refine wp_if_eq (tgt := 55) dX12_allOf_47 rfl (fun c3 => ?_) (fun c3 => ?_)
  ·
    refine wp_bipush dX12_allOf_55 (by decide) ?_
    exact wp_loc (L2 := [some (vR 369), some (vI x1), none]) ⟨rfl, ⟨rfl, trivial⟩⟩ (q2.1 c3)
  ·
    refine wp_bipush dX12_allOf_50 (by decide) ?_
    refine wp_goto (tgt := 57) dX12_allOf_52 rfl ?_
    exact wp_loc (L2 := [some (vR 369), some (vI x1), none]) ⟨rfl, ⟨rfl, trivial⟩⟩ (q2.2 c3)
set_option maxHeartbeats 4000000 in
set_option maxRecDepth 10000 in
theorem sX12_allOf_57 {K : KK} {d : Nat} {V : Mem} {Q : Option AV → Mem → Prop} (x1 : Int) (s1 : Int) (h : (((0 : Int) ≤ (w32 (1100 + (V 369 12))) ∧ (w32 (1100 + (V 369 12))) < (2200 : Nat)) ∧ Wf K (d + 1) mX12_allOf 5 [some (vR 369), some (vI x1), none] [] (upm (upm V 376 (Int.toNat (w32 (1100 + (V 369 12)))) (w32 (s1 + (w32 (16 * 0))))) 369 12 (w32 (((upm V 376 (Int.toNat (w32 (1100 + (V 369 12)))) (w32 (s1 + (w32 (16 * 0))))) 369 12) + 1))) Q)) : Wf K (d + 1) mX12_allOf 57 [some (vR 369), some (vI x1), none] [vI s1, vR 369] V Q := by
  refine wp_iconst dX12_allOf_57 (by decide) ?_
  refine wp_inlV (d' := d) (S := []) (as := [vI s1, vI 0]) dX12_allOf_58 lX12_237 (by omega) sh369 rfl rfl (Nat.le_of_ble_eq_true rfl) ⟨Nat.le_refl _, Nat.le_refl _⟩ (Mt.of2 (L := [some (vR 369), some (vI s1), some (vI 0)]) pnX12 rfl rfl ?_)
  refine wp_aload_n dX12_emit_0 rfl rfl ?_
  refine wp_getR (b := 376) dX12_emit_1 fX12_78 rfl sh369 (by decide) rfl ?_
  refine wp_sipush dX12_emit_4 (by decide) ?_
  refine wp_aload_n dX12_emit_7 rfl rfl ?_
  refine wp_getI dX12_emit_8 fX12_216 rfl sh369 (by decide) ?_
  refine wp_iadd dX12_emit_11 ?_
  refine wp_iload_n dX12_emit_12 rfl rfl ?_
  refine wp_bipush dX12_emit_13 (by decide) ?_
  refine wp_iload_n dX12_emit_15 rfl rfl ?_
  refine wp_imul dX12_emit_16 ?_
  refine wp_iadd dX12_emit_17 ?_
  refine wp_iast dX12_emit_18 sh376 h.1 ?_
  refine wp_aload_n dX12_emit_19 rfl rfl ?_
  refine wp_dup dX12_emit_20 rfl ?_
  refine wp_getI dX12_emit_21 fX12_216 rfl sh369 (by decide) ?_
  refine wp_iconst dX12_emit_24 (by decide) ?_
  refine wp_iadd dX12_emit_25 ?_
  refine wp_putI dX12_emit_26 fwX12_216 rfl sh369 (by decide) ?_
  refine wp_return dX12_emit_29 rfl ⟨rfl, rfl⟩ ?_
  show Wp _ _ _ _ _ 61 _ [] _ _ _ _ _
  refine wp_goto (tgt := 5) dX12_allOf_61 rfl ?_
  exact h.2
set_option maxHeartbeats 4000000 in
set_option maxRecDepth 10000 in
theorem sX12_test {K : KK} {d : Nat} {V : Mem} {Q : Option AV → Mem → Prop} (x1 : Int) (h : Mf K d mX12_sums [vR 369, vI x1] V (fun r V1 => r = none ∧ Mf K d mX12_isSign [vR 369, vI 60] V1 (fun r V2 => ∃ z2, r = some (vI z2) ∧ Mf K d mX12_hasSign [vR 369, vI 60] V2 (fun r V3 => ∃ z3, r = some (vI z3) ∧ ((¬ z3 = 0 → Mf K d mX12_sums [vR 369, vI x1] V3 (fun r V5 => r = none ∧ ((z2 = 0 → (((0 : Int) ≤ (w32 (1100 + (V5 369 12))) ∧ (w32 (1100 + (V5 369 12))) < (2200 : Nat)) ∧ Q none (upm (upm V5 376 (Int.toNat (w32 (1100 + (V5 369 12)))) (w32 (8 + (w32 (16 * 0))))) 369 12 (w32 (((upm V5 376 (Int.toNat (w32 (1100 + (V5 369 12)))) (w32 (8 + (w32 (16 * 0))))) 369 12) + 1))))) ∧ (¬ (z2 = 0) → (((0 : Int) ≤ (w32 (1100 + (V5 369 12))) ∧ (w32 (1100 + (V5 369 12))) < (2200 : Nat)) ∧ Q none (upm (upm V5 376 (Int.toNat (w32 (1100 + (V5 369 12)))) (w32 (7 + (w32 (16 * 0))))) 369 12 (w32 (((upm V5 376 (Int.toNat (w32 (1100 + (V5 369 12)))) (w32 (7 + (w32 (16 * 0))))) 369 12) + 1)))))))) ∧ (z3 = 0 → Mf K d mX12_hasSign [vR 369, vI 61] V3 (fun r V7 => ∃ z7, r = some (vI z7) ∧ ((z7 = 0 → Q none V7) ∧ (¬ (z7 = 0) → Mf K d mX12_sums [vR 369, vI x1] V7 (fun r V9 => r = none ∧ ((z2 = 0 → (((0 : Int) ≤ (w32 (1100 + (V9 369 12))) ∧ (w32 (1100 + (V9 369 12))) < (2200 : Nat)) ∧ Q none (upm (upm V9 376 (Int.toNat (w32 (1100 + (V9 369 12)))) (w32 (8 + (w32 (16 * 0))))) 369 12 (w32 (((upm V9 376 (Int.toNat (w32 (1100 + (V9 369 12)))) (w32 (8 + (w32 (16 * 0))))) 369 12) + 1))))) ∧ (¬ (z2 = 0) → (((0 : Int) ≤ (w32 (1100 + (V9 369 12))) ∧ (w32 (1100 + (V9 369 12))) < (2200 : Nat)) ∧ Q none (upm (upm V9 376 (Int.toNat (w32 (1100 + (V9 369 12)))) (w32 (7 + (w32 (16 * 0))))) 369 12 (w32 (((upm V9 376 (Int.toNat (w32 (1100 + (V9 369 12)))) (w32 (7 + (w32 (16 * 0))))) 369 12) + 1)))))))))))))))) : Mf K (d + 1) mX12_test [vR 369, vI x1] V Q := by
  refine Mt.of2 (L := [some (vR 369), some (vI x1), none]) pnX12 rfl rfl ?_
  refine wp_aload_n dX12_test_0 rfl rfl ?_
  refine wp_iload_n dX12_test_1 rfl rfl ?_
  refine wp_callV (S := []) (as := [vI x1]) dX12_test_2 lX12_256 (h) (by omega) sh369 rfl rfl (Nat.le_of_ble_eq_true rfl) ⟨Nat.le_refl _, Nat.le_refl _⟩ ?_
  rintro _ _ V1 ⟨rfl, rfl, q1⟩
  show Wp _ _ _ _ _ 5 _ [] _ _ _ _ _
  refine wp_aload_n dX12_test_5 rfl rfl ?_
  refine wp_bipush dX12_test_6 (by decide) ?_
  refine wp_callV (S := []) (as := [vI 60]) dX12_test_8 lX12_190 (q1) (by omega) sh369 rfl rfl (Nat.le_of_ble_eq_true rfl) ⟨Nat.le_refl _, Nat.le_refl _⟩ ?_
  rintro _ _ V2 ⟨rfl, z2, rfl, q2⟩
  show Wp _ _ _ _ _ 11 _ [vI z2] _ _ _ _ _
  refine wp_istore_n dX12_test_11 rfl (by decide) rfl ?_
  refine wp_aload_n dX12_test_12 rfl rfl ?_
  refine wp_bipush dX12_test_13 (by decide) ?_
  refine wp_callV (S := []) (as := [vI 60]) dX12_test_15 lX12_259 (q2) (by omega) sh369 rfl rfl (Nat.le_of_ble_eq_true rfl) ⟨Nat.le_refl _, Nat.le_refl _⟩ ?_
  rintro _ _ V3 ⟨rfl, z3, rfl, q3⟩
  show Wp _ _ _ _ _ 18 _ [vI z3] _ _ _ _ _
  refine wp_if_ne (tgt := 30) dX12_test_18 rfl (fun c4 => ?_) (fun c4 => ?_)
  ·
    refine wp_aload_n dX12_test_30 rfl rfl ?_
    refine wp_iload_n dX12_test_31 rfl rfl ?_
    refine wp_callV (S := []) (as := [vI x1]) dX12_test_32 lX12_256 ((q3.1 c4)) (by omega) sh369 rfl rfl (Nat.le_of_ble_eq_true rfl) ⟨Nat.le_refl _, Nat.le_refl _⟩ ?_
    rintro _ _ V5 ⟨rfl, rfl, q5⟩
    show Wp _ _ _ _ _ 35 _ [] _ _ _ _ _
    refine wp_aload_n dX12_test_35 rfl rfl ?_
    refine wp_iload_n dX12_test_36 rfl rfl ?_
    refine wp_if_eq (tgt := 45) dX12_test_37 rfl (fun c6 => ?_) (fun c6 => ?_)
    ·
      refine wp_bipush dX12_test_45 (by decide) ?_
      refine wp_iconst dX12_test_47 (by decide) ?_
      refine wp_inlV (d' := d) (S := []) (as := [vI 8, vI 0]) dX12_test_48 lX12_237 (by omega) sh369 rfl rfl (Nat.le_of_ble_eq_true rfl) ⟨Nat.le_refl _, Nat.le_refl _⟩ (Mt.of2 (L := [some (vR 369), some (vI 8), some (vI 0)]) pnX12 rfl rfl ?_)
      refine wp_aload_n dX12_emit_0 rfl rfl ?_
      refine wp_getR (b := 376) dX12_emit_1 fX12_78 rfl sh369 (by decide) rfl ?_
      refine wp_sipush dX12_emit_4 (by decide) ?_
      refine wp_aload_n dX12_emit_7 rfl rfl ?_
      refine wp_getI dX12_emit_8 fX12_216 rfl sh369 (by decide) ?_
      refine wp_iadd dX12_emit_11 ?_
      refine wp_iload_n dX12_emit_12 rfl rfl ?_
      refine wp_bipush dX12_emit_13 (by decide) ?_
      refine wp_iload_n dX12_emit_15 rfl rfl ?_
      refine wp_imul dX12_emit_16 ?_
      refine wp_iadd dX12_emit_17 ?_
      refine wp_iast dX12_emit_18 sh376 (q5.1 c6).1 ?_
      refine wp_aload_n dX12_emit_19 rfl rfl ?_
      refine wp_dup dX12_emit_20 rfl ?_
      refine wp_getI dX12_emit_21 fX12_216 rfl sh369 (by decide) ?_
      refine wp_iconst dX12_emit_24 (by decide) ?_
      refine wp_iadd dX12_emit_25 ?_
      refine wp_putI dX12_emit_26 fwX12_216 rfl sh369 (by decide) ?_
      refine wp_return dX12_emit_29 rfl ⟨rfl, rfl⟩ ?_
      show Wp _ _ _ _ _ 51 _ [] _ _ _ _ _
      exact wp_return dX12_test_51 rfl ⟨rfl, rfl⟩ ⟨rfl, (q5.1 c6).2⟩
    ·
      refine wp_bipush dX12_test_40 (by decide) ?_
      refine wp_goto (tgt := 47) dX12_test_42 rfl ?_
      refine wp_iconst dX12_test_47 (by decide) ?_
      refine wp_inlV (d' := d) (S := []) (as := [vI 7, vI 0]) dX12_test_48 lX12_237 (by omega) sh369 rfl rfl (Nat.le_of_ble_eq_true rfl) ⟨Nat.le_refl _, Nat.le_refl _⟩ (Mt.of2 (L := [some (vR 369), some (vI 7), some (vI 0)]) pnX12 rfl rfl ?_)
      refine wp_aload_n dX12_emit_0 rfl rfl ?_
      refine wp_getR (b := 376) dX12_emit_1 fX12_78 rfl sh369 (by decide) rfl ?_
      refine wp_sipush dX12_emit_4 (by decide) ?_
      refine wp_aload_n dX12_emit_7 rfl rfl ?_
      refine wp_getI dX12_emit_8 fX12_216 rfl sh369 (by decide) ?_
      refine wp_iadd dX12_emit_11 ?_
      refine wp_iload_n dX12_emit_12 rfl rfl ?_
      refine wp_bipush dX12_emit_13 (by decide) ?_
      refine wp_iload_n dX12_emit_15 rfl rfl ?_
      refine wp_imul dX12_emit_16 ?_
      refine wp_iadd dX12_emit_17 ?_
      refine wp_iast dX12_emit_18 sh376 (q5.2 c6).1 ?_
      refine wp_aload_n dX12_emit_19 rfl rfl ?_
      refine wp_dup dX12_emit_20 rfl ?_
      refine wp_getI dX12_emit_21 fX12_216 rfl sh369 (by decide) ?_
      refine wp_iconst dX12_emit_24 (by decide) ?_
      refine wp_iadd dX12_emit_25 ?_
      refine wp_putI dX12_emit_26 fwX12_216 rfl sh369 (by decide) ?_
      refine wp_return dX12_emit_29 rfl ⟨rfl, rfl⟩ ?_
      show Wp _ _ _ _ _ 51 _ [] _ _ _ _ _
      exact wp_return dX12_test_51 rfl ⟨rfl, rfl⟩ ⟨rfl, (q5.2 c6).2⟩
  ·
    refine wp_aload_n dX12_test_21 rfl rfl ?_
    refine wp_bipush dX12_test_22 (by decide) ?_
    refine wp_callV (S := []) (as := [vI 61]) dX12_test_24 lX12_259 ((q3.2 c4)) (by omega) sh369 rfl rfl (Nat.le_of_ble_eq_true rfl) ⟨Nat.le_refl _, Nat.le_refl _⟩ ?_
    rintro _ _ V7 ⟨rfl, z7, rfl, q7⟩
    show Wp _ _ _ _ _ 27 _ [vI z7] _ _ _ _ _
    refine wp_if_eq (tgt := 51) dX12_test_27 rfl (fun c8 => ?_) (fun c8 => ?_)
    ·
      exact wp_return dX12_test_51 rfl ⟨rfl, rfl⟩ ⟨rfl, (q7.1 c8)⟩
    ·
      refine wp_aload_n dX12_test_30 rfl rfl ?_
      refine wp_iload_n dX12_test_31 rfl rfl ?_
      refine wp_callV (S := []) (as := [vI x1]) dX12_test_32 lX12_256 ((q7.2 c8)) (by omega) sh369 rfl rfl (Nat.le_of_ble_eq_true rfl) ⟨Nat.le_refl _, Nat.le_refl _⟩ ?_
      rintro _ _ V9 ⟨rfl, rfl, q9⟩
      show Wp _ _ _ _ _ 35 _ [] _ _ _ _ _
      refine wp_aload_n dX12_test_35 rfl rfl ?_
      refine wp_iload_n dX12_test_36 rfl rfl ?_
      refine wp_if_eq (tgt := 45) dX12_test_37 rfl (fun c10 => ?_) (fun c10 => ?_)
      ·
        refine wp_bipush dX12_test_45 (by decide) ?_
        refine wp_iconst dX12_test_47 (by decide) ?_
        refine wp_inlV (d' := d) (S := []) (as := [vI 8, vI 0]) dX12_test_48 lX12_237 (by omega) sh369 rfl rfl (Nat.le_of_ble_eq_true rfl) ⟨Nat.le_refl _, Nat.le_refl _⟩ (Mt.of2 (L := [some (vR 369), some (vI 8), some (vI 0)]) pnX12 rfl rfl ?_)
        refine wp_aload_n dX12_emit_0 rfl rfl ?_
        refine wp_getR (b := 376) dX12_emit_1 fX12_78 rfl sh369 (by decide) rfl ?_
        refine wp_sipush dX12_emit_4 (by decide) ?_
        refine wp_aload_n dX12_emit_7 rfl rfl ?_
        refine wp_getI dX12_emit_8 fX12_216 rfl sh369 (by decide) ?_
        refine wp_iadd dX12_emit_11 ?_
        refine wp_iload_n dX12_emit_12 rfl rfl ?_
        refine wp_bipush dX12_emit_13 (by decide) ?_
        refine wp_iload_n dX12_emit_15 rfl rfl ?_
        refine wp_imul dX12_emit_16 ?_
        refine wp_iadd dX12_emit_17 ?_
        refine wp_iast dX12_emit_18 sh376 (q9.1 c10).1 ?_
        refine wp_aload_n dX12_emit_19 rfl rfl ?_
        refine wp_dup dX12_emit_20 rfl ?_
        refine wp_getI dX12_emit_21 fX12_216 rfl sh369 (by decide) ?_
        refine wp_iconst dX12_emit_24 (by decide) ?_
        refine wp_iadd dX12_emit_25 ?_
        refine wp_putI dX12_emit_26 fwX12_216 rfl sh369 (by decide) ?_
        refine wp_return dX12_emit_29 rfl ⟨rfl, rfl⟩ ?_
        show Wp _ _ _ _ _ 51 _ [] _ _ _ _ _
        exact wp_return dX12_test_51 rfl ⟨rfl, rfl⟩ ⟨rfl, (q9.1 c10).2⟩
      ·
        refine wp_bipush dX12_test_40 (by decide) ?_
        refine wp_goto (tgt := 47) dX12_test_42 rfl ?_
        refine wp_iconst dX12_test_47 (by decide) ?_
        refine wp_inlV (d' := d) (S := []) (as := [vI 7, vI 0]) dX12_test_48 lX12_237 (by omega) sh369 rfl rfl (Nat.le_of_ble_eq_true rfl) ⟨Nat.le_refl _, Nat.le_refl _⟩ (Mt.of2 (L := [some (vR 369), some (vI 7), some (vI 0)]) pnX12 rfl rfl ?_)
        refine wp_aload_n dX12_emit_0 rfl rfl ?_
        refine wp_getR (b := 376) dX12_emit_1 fX12_78 rfl sh369 (by decide) rfl ?_
        refine wp_sipush dX12_emit_4 (by decide) ?_
        refine wp_aload_n dX12_emit_7 rfl rfl ?_
        refine wp_getI dX12_emit_8 fX12_216 rfl sh369 (by decide) ?_
        refine wp_iadd dX12_emit_11 ?_
        refine wp_iload_n dX12_emit_12 rfl rfl ?_
        refine wp_bipush dX12_emit_13 (by decide) ?_
        refine wp_iload_n dX12_emit_15 rfl rfl ?_
        refine wp_imul dX12_emit_16 ?_
        refine wp_iadd dX12_emit_17 ?_
        refine wp_iast dX12_emit_18 sh376 (q9.2 c10).1 ?_
        refine wp_aload_n dX12_emit_19 rfl rfl ?_
        refine wp_dup dX12_emit_20 rfl ?_
        refine wp_getI dX12_emit_21 fX12_216 rfl sh369 (by decide) ?_
        refine wp_iconst dX12_emit_24 (by decide) ?_
        refine wp_iadd dX12_emit_25 ?_
        refine wp_putI dX12_emit_26 fwX12_216 rfl sh369 (by decide) ?_
        refine wp_return dX12_emit_29 rfl ⟨rfl, rfl⟩ ?_
        show Wp _ _ _ _ _ 51 _ [] _ _ _ _ _
        exact wp_return dX12_test_51 rfl ⟨rfl, rfl⟩ ⟨rfl, (q9.2 c10).2⟩
set_option maxHeartbeats 4000000 in
set_option maxRecDepth 10000 in
theorem sX12_sums {K : KK} {d : Nat} {V : Mem} {Q : Option AV → Mem → Prop} (x1 : Int) (h : Mf K d mX12_products [vR 369, vI x1] V (fun r V1 => r = none ∧ Wf K (d + 1) mX12_sums 5 [some (vR 369), some (vI x1), none] [] V1 Q)) : Mf K (d + 1) mX12_sums [vR 369, vI x1] V Q := by
  refine Mt.of2 (L := [some (vR 369), some (vI x1), none]) pnX12 rfl rfl ?_
  refine wp_aload_n dX12_sums_0 rfl rfl ?_
  refine wp_iload_n dX12_sums_1 rfl rfl ?_
  refine wp_callV (S := []) (as := [vI x1]) dX12_sums_2 lX12_262 (h) (by omega) sh369 rfl rfl (Nat.le_of_ble_eq_true rfl) ⟨Nat.le_refl _, Nat.le_refl _⟩ ?_
  rintro _ _ V1 ⟨rfl, rfl, q1⟩
  show Wp _ _ _ _ _ 5 _ [] _ _ _ _ _
  exact q1
set_option maxHeartbeats 4000000 in
set_option maxRecDepth 10000 in
theorem sX12_sums_5 {K : KK} {d : Nat} {V : Mem} {Q : Option AV → Mem → Prop} (x1 : Int) (h : Mf K d mX12_isSign [vR 369, vI 43] V (fun r V1 => ∃ z1, r = some (vI z1) ∧ ((¬ z1 = 0 → Wf K (d + 1) mX12_sums 23 [some (vR 369), some (vI x1), none] [] V1 Q) ∧ (z1 = 0 → Mf K d mX12_isSign [vR 369, vI 45] V1 (fun r V3 => ∃ z3, r = some (vI z3) ∧ ((z3 = 0 → Q none V3) ∧ (¬ (z3 = 0) → Wf K (d + 1) mX12_sums 23 [some (vR 369), some (vI x1), none] [] V3 Q))))))) : Wf K (d + 1) mX12_sums 5 [some (vR 369), some (vI x1), none] [] V Q := by
  refine wp_aload_n dX12_sums_5 rfl rfl ?_
  refine wp_bipush dX12_sums_6 (by decide) ?_
  refine wp_callV (S := []) (as := [vI 43]) dX12_sums_8 lX12_190 (h) (by omega) sh369 rfl rfl (Nat.le_of_ble_eq_true rfl) ⟨Nat.le_refl _, Nat.le_refl _⟩ ?_
  rintro _ _ V1 ⟨rfl, z1, rfl, q1⟩
  show Wp _ _ _ _ _ 11 _ [vI z1] _ _ _ _ _
  refine wp_if_ne (tgt := 23) dX12_sums_11 rfl (fun c2 => ?_) (fun c2 => ?_)
  ·
    exact (q1.1 c2)
  ·
    refine wp_aload_n dX12_sums_14 rfl rfl ?_
    refine wp_bipush dX12_sums_15 (by decide) ?_
    refine wp_callV (S := []) (as := [vI 45]) dX12_sums_17 lX12_190 ((q1.2 c2)) (by omega) sh369 rfl rfl (Nat.le_of_ble_eq_true rfl) ⟨Nat.le_refl _, Nat.le_refl _⟩ ?_
    rintro _ _ V3 ⟨rfl, z3, rfl, q3⟩
    show Wp _ _ _ _ _ 20 _ [vI z3] _ _ _ _ _
    refine wp_if_eq (tgt := 62) dX12_sums_20 rfl (fun c4 => ?_) (fun c4 => ?_)
    ·
      exact wp_return dX12_sums_62 rfl ⟨rfl, rfl⟩ ⟨rfl, (q3.1 c4)⟩
    ·
      exact (q3.2 c4)
set_option maxHeartbeats 4000000 in
set_option maxRecDepth 10000 in
theorem sX12_sums_23 {K : KK} {d : Nat} {V : Mem} {Q : Option AV → Mem → Prop} (x1 : Int) (h : Mf K d mX12_isSign [vR 369, vI 43] V (fun r V1 => ∃ z1, r = some (vI z1) ∧ Mf K d mX12_products [vR 369, vI x1] (upm V1 369 7 (w32 ((V1 369 7) + 1))) (fun r V2 => r = none ∧ ((z1 = 0 → Wf K (d + 1) mX12_sums 55 [some (vR 369), some (vI x1), none] [vI 5, vR 369] V2 Q) ∧ (¬ (z1 = 0) → Wf K (d + 1) mX12_sums 55 [some (vR 369), some (vI x1), none] [vI 4, vR 369] V2 Q))))) : Wf K (d + 1) mX12_sums 23 [some (vR 369), some (vI x1), none] [] V Q := by
  refine wp_aload_n dX12_sums_23 rfl rfl ?_
  refine wp_bipush dX12_sums_24 (by decide) ?_
  refine wp_callV (S := []) (as := [vI 43]) dX12_sums_26 lX12_190 (h) (by omega) sh369 rfl rfl (Nat.le_of_ble_eq_true rfl) ⟨Nat.le_refl _, Nat.le_refl _⟩ ?_
  rintro _ _ V1 ⟨rfl, z1, rfl, q1⟩
  show Wp _ _ _ _ _ 29 _ [vI z1] _ _ _ _ _
  refine wp_istore_n dX12_sums_29 rfl (by decide) rfl ?_
  refine wp_aload_n dX12_sums_30 rfl rfl ?_
  refine wp_dup dX12_sums_31 rfl ?_
  refine wp_getI dX12_sums_32 fX12_184 rfl sh369 (by decide) ?_
  refine wp_iconst dX12_sums_35 (by decide) ?_
  refine wp_iadd dX12_sums_36 ?_
  refine wp_putI dX12_sums_37 fwX12_184 rfl sh369 (by decide) ?_
  refine wp_aload_n dX12_sums_40 rfl rfl ?_
  refine wp_iload_n dX12_sums_41 rfl rfl ?_
  refine wp_callV (S := []) (as := [vI x1]) dX12_sums_42 lX12_262 (q1) (by omega) sh369 rfl rfl (Nat.le_of_ble_eq_true rfl) ⟨Nat.le_refl _, Nat.le_refl _⟩ ?_
  rintro _ _ V2 ⟨rfl, rfl, q2⟩
  show Wp _ _ _ _ _ 45 _ [] _ _ _ _ _
  refine wp_aload_n dX12_sums_45 rfl rfl ?_
  refine wp_iload_n dX12_sums_46 rfl rfl ?_
  refine wp_if_eq (tgt := 54) dX12_sums_47 rfl (fun c3 => ?_) (fun c3 => ?_)
  ·
    refine wp_iconst dX12_sums_54 (by decide) ?_
    exact wp_loc (L2 := [some (vR 369), some (vI x1), none]) ⟨rfl, ⟨rfl, trivial⟩⟩ (q2.1 c3)
  ·
    refine wp_iconst dX12_sums_50 (by decide) ?_
    refine wp_goto (tgt := 55) dX12_sums_51 rfl ?_
    exact wp_loc (L2 := [some (vR 369), some (vI x1), none]) ⟨rfl, ⟨rfl, trivial⟩⟩ (q2.2 c3)
set_option maxHeartbeats 4000000 in
set_option maxRecDepth 10000 in
theorem sX12_sums_55 {K : KK} {d : Nat} {V : Mem} {Q : Option AV → Mem → Prop} (x1 : Int) (s1 : Int) (h : (((0 : Int) ≤ (w32 (1100 + (V 369 12))) ∧ (w32 (1100 + (V 369 12))) < (2200 : Nat)) ∧ Wf K (d + 1) mX12_sums 5 [some (vR 369), some (vI x1), none] [] (upm (upm V 376 (Int.toNat (w32 (1100 + (V 369 12)))) (w32 (s1 + (w32 (16 * 0))))) 369 12 (w32 (((upm V 376 (Int.toNat (w32 (1100 + (V 369 12)))) (w32 (s1 + (w32 (16 * 0))))) 369 12) + 1))) Q)) : Wf K (d + 1) mX12_sums 55 [some (vR 369), some (vI x1), none] [vI s1, vR 369] V Q := by
  refine wp_iconst dX12_sums_55 (by decide) ?_
  refine wp_inlV (d' := d) (S := []) (as := [vI s1, vI 0]) dX12_sums_56 lX12_237 (by omega) sh369 rfl rfl (Nat.le_of_ble_eq_true rfl) ⟨Nat.le_refl _, Nat.le_refl _⟩ (Mt.of2 (L := [some (vR 369), some (vI s1), some (vI 0)]) pnX12 rfl rfl ?_)
  refine wp_aload_n dX12_emit_0 rfl rfl ?_
  refine wp_getR (b := 376) dX12_emit_1 fX12_78 rfl sh369 (by decide) rfl ?_
  refine wp_sipush dX12_emit_4 (by decide) ?_
  refine wp_aload_n dX12_emit_7 rfl rfl ?_
  refine wp_getI dX12_emit_8 fX12_216 rfl sh369 (by decide) ?_
  refine wp_iadd dX12_emit_11 ?_
  refine wp_iload_n dX12_emit_12 rfl rfl ?_
  refine wp_bipush dX12_emit_13 (by decide) ?_
  refine wp_iload_n dX12_emit_15 rfl rfl ?_
  refine wp_imul dX12_emit_16 ?_
  refine wp_iadd dX12_emit_17 ?_
  refine wp_iast dX12_emit_18 sh376 h.1 ?_
  refine wp_aload_n dX12_emit_19 rfl rfl ?_
  refine wp_dup dX12_emit_20 rfl ?_
  refine wp_getI dX12_emit_21 fX12_216 rfl sh369 (by decide) ?_
  refine wp_iconst dX12_emit_24 (by decide) ?_
  refine wp_iadd dX12_emit_25 ?_
  refine wp_putI dX12_emit_26 fwX12_216 rfl sh369 (by decide) ?_
  refine wp_return dX12_emit_29 rfl ⟨rfl, rfl⟩ ?_
  show Wp _ _ _ _ _ 59 _ [] _ _ _ _ _
  refine wp_goto (tgt := 5) dX12_sums_59 rfl ?_
  exact h.2
set_option maxHeartbeats 4000000 in
set_option maxRecDepth 10000 in
theorem sX12_products {K : KK} {d : Nat} {V : Mem} {Q : Option AV → Mem → Prop} (x1 : Int) (h : Mf K d mX12_takePart [vR 369, vI x1] V (fun r V1 => r = none ∧ Wf K (d + 1) mX12_products 5 [some (vR 369), some (vI x1)] [] V1 Q)) : Mf K (d + 1) mX12_products [vR 369, vI x1] V Q := by
  refine Mt.of2 (L := [some (vR 369), some (vI x1)]) pnX12 rfl rfl ?_
  refine wp_aload_n dX12_products_0 rfl rfl ?_
  refine wp_iload_n dX12_products_1 rfl rfl ?_
  refine wp_callV (S := []) (as := [vI x1]) dX12_products_2 lX12_265 (h) (by omega) sh369 rfl rfl (Nat.le_of_ble_eq_true rfl) ⟨Nat.le_refl _, Nat.le_refl _⟩ ?_
  rintro _ _ V1 ⟨rfl, rfl, q1⟩
  show Wp _ _ _ _ _ 5 _ [] _ _ _ _ _
  exact q1
set_option maxHeartbeats 4000000 in
set_option maxRecDepth 10000 in
theorem sX12_products_5 {K : KK} {d : Nat} {V : Mem} {Q : Option AV → Mem → Prop} (x1 : Int) (h : Mf K d mX12_hasSign [vR 369, vI 42] V (fun r V1 => ∃ z1, r = some (vI z1) ∧ ((z1 = 0 → Q none V1) ∧ (¬ (z1 = 0) → Mf K d mX12_takePart [vR 369, vI x1] V1 (fun r V3 => r = none ∧ (((0 : Int) ≤ (w32 (1100 + (V3 369 12))) ∧ (w32 (1100 + (V3 369 12))) < (2200 : Nat)) ∧ Wf K (d + 1) mX12_products 5 [some (vR 369), some (vI x1)] [] (upm (upm V3 376 (Int.toNat (w32 (1100 + (V3 369 12)))) (w32 (6 + (w32 (16 * 0))))) 369 12 (w32 (((upm V3 376 (Int.toNat (w32 (1100 + (V3 369 12)))) (w32 (6 + (w32 (16 * 0))))) 369 12) + 1))) Q)))))) : Wf K (d + 1) mX12_products 5 [some (vR 369), some (vI x1)] [] V Q := by
  refine wp_aload_n dX12_products_5 rfl rfl ?_
  refine wp_bipush dX12_products_6 (by decide) ?_
  refine wp_callV (S := []) (as := [vI 42]) dX12_products_8 lX12_259 (h) (by omega) sh369 rfl rfl (Nat.le_of_ble_eq_true rfl) ⟨Nat.le_refl _, Nat.le_refl _⟩ ?_
  rintro _ _ V1 ⟨rfl, z1, rfl, q1⟩
  show Wp _ _ _ _ _ 11 _ [vI z1] _ _ _ _ _
  refine wp_if_eq (tgt := 29) dX12_products_11 rfl (fun c2 => ?_) (fun c2 => ?_)
  ·
    exact wp_return dX12_products_29 rfl ⟨rfl, rfl⟩ ⟨rfl, (q1.1 c2)⟩
  ·
    refine wp_aload_n dX12_products_14 rfl rfl ?_
    refine wp_iload_n dX12_products_15 rfl rfl ?_
    refine wp_callV (S := []) (as := [vI x1]) dX12_products_16 lX12_265 ((q1.2 c2)) (by omega) sh369 rfl rfl (Nat.le_of_ble_eq_true rfl) ⟨Nat.le_refl _, Nat.le_refl _⟩ ?_
    rintro _ _ V3 ⟨rfl, rfl, q3⟩
    show Wp _ _ _ _ _ 19 _ [] _ _ _ _ _
    refine wp_aload_n dX12_products_19 rfl rfl ?_
    refine wp_bipush dX12_products_20 (by decide) ?_
    refine wp_iconst dX12_products_22 (by decide) ?_
    refine wp_inlV (d' := d) (S := []) (as := [vI 6, vI 0]) dX12_products_23 lX12_237 (by omega) sh369 rfl rfl (Nat.le_of_ble_eq_true rfl) ⟨Nat.le_refl _, Nat.le_refl _⟩ (Mt.of2 (L := [some (vR 369), some (vI 6), some (vI 0)]) pnX12 rfl rfl ?_)
    refine wp_aload_n dX12_emit_0 rfl rfl ?_
    refine wp_getR (b := 376) dX12_emit_1 fX12_78 rfl sh369 (by decide) rfl ?_
    refine wp_sipush dX12_emit_4 (by decide) ?_
    refine wp_aload_n dX12_emit_7 rfl rfl ?_
    refine wp_getI dX12_emit_8 fX12_216 rfl sh369 (by decide) ?_
    refine wp_iadd dX12_emit_11 ?_
    refine wp_iload_n dX12_emit_12 rfl rfl ?_
    refine wp_bipush dX12_emit_13 (by decide) ?_
    refine wp_iload_n dX12_emit_15 rfl rfl ?_
    refine wp_imul dX12_emit_16 ?_
    refine wp_iadd dX12_emit_17 ?_
    refine wp_iast dX12_emit_18 sh376 q3.1 ?_
    refine wp_aload_n dX12_emit_19 rfl rfl ?_
    refine wp_dup dX12_emit_20 rfl ?_
    refine wp_getI dX12_emit_21 fX12_216 rfl sh369 (by decide) ?_
    refine wp_iconst dX12_emit_24 (by decide) ?_
    refine wp_iadd dX12_emit_25 ?_
    refine wp_putI dX12_emit_26 fwX12_216 rfl sh369 (by decide) ?_
    refine wp_return dX12_emit_29 rfl ⟨rfl, rfl⟩ ?_
    show Wp _ _ _ _ _ 26 _ [] _ _ _ _ _
    refine wp_goto (tgt := 5) dX12_products_26 rfl ?_
    exact q3.2
set_option maxHeartbeats 4000000 in
set_option maxRecDepth 10000 in
theorem sX12_takePart {K : KK} {d : Nat} {V : Mem} {Q : Option AV → Mem → Prop} (x1 : Int) (h : (((V 369 8) ≤ 0 → (((0 : Int) ≤ (V 369 7) ∧ (V 369 7) < (1002 : Nat)) ∧ ((¬ (V 371 (Int.toNat (V 369 7))) = 2 → Wf K (d + 1) mX12_takePart 26 [some (vR 369), some (vI x1), none, none] [vI 0] V Q) ∧ ((V 371 (Int.toNat (V 369 7))) = 2 → Wf K (d + 1) mX12_takePart 26 [some (vR 369), some (vI x1), none, none] [vI 1] V Q)))) ∧ (¬ ((V 369 8) ≤ 0) → Q none V))) : Mf K (d + 1) mX12_takePart [vR 369, vI x1] V Q := by
  refine Mt.of2 (L := [some (vR 369), some (vI x1), none, none]) pnX12 rfl rfl ?_
  refine wp_aload_n dX12_takePart_0 rfl rfl ?_
  refine wp_getI dX12_takePart_1 fX12_187 rfl sh369 (by decide) ?_
  refine wp_if_le (tgt := 8) dX12_takePart_4 rfl (fun c1 => ?_) (fun c1 => ?_)
  ·
    refine wp_aload_n dX12_takePart_8 rfl rfl ?_
    refine wp_getR (b := 371) dX12_takePart_9 fX12_24 rfl sh369 (by decide) rfl ?_
    refine wp_aload_n dX12_takePart_12 rfl rfl ?_
    refine wp_getI dX12_takePart_13 fX12_184 rfl sh369 (by decide) ?_
    refine wp_iald dX12_takePart_16 sh371 (h.1 c1).1 ?_
    refine wp_iconst dX12_takePart_17 (by decide) ?_
    refine wp_icmp_ne (tgt := 25) dX12_takePart_18 rfl (fun c2 => ?_) (fun c2 => ?_)
    ·
      refine wp_iconst dX12_takePart_25 (by decide) ?_
      exact ((h.1 c1).2.1 c2)
    ·
      refine wp_iconst dX12_takePart_21 (by decide) ?_
      refine wp_goto (tgt := 26) dX12_takePart_22 rfl ?_
      exact ((h.1 c1).2.2 c2)
  ·
    exact wp_return dX12_takePart_7 rfl ⟨rfl, rfl⟩ ⟨rfl, (h.2 c1)⟩
set_option maxHeartbeats 4000000 in
set_option maxRecDepth 10000 in
theorem sX12_takePart_26 {K : KK} {d : Nat} {V : Mem} {Q : Option AV → Mem → Prop} (x1 : Int) (s0 : Int) (h : Mf K d mX12_wordHere [vR 369, vI 15, vI 4] V (fun r V1 => ∃ z1, r = some (vI z1) ∧ ((0 ≤ z1 → Wf K (d + 1) mX12_takePart 69 [some (vR 369), some (vI x1), some (vI s0), some (vI z1)] [] V1 Q) ∧ (¬ (0 ≤ z1) → ((¬ s0 = 0 → Wf K (d + 1) mX12_takePart 69 [some (vR 369), some (vI x1), some (vI s0), some (vI z1)] [] V1 Q) ∧ (s0 = 0 → Mf K d mX12_isSign [vR 369, vI 40] V1 (fun r V4 => ∃ z4, r = some (vI z4) ∧ ((¬ z4 = 0 → Wf K (d + 1) mX12_takePart 69 [some (vR 369), some (vI x1), some (vI s0), some (vI z1)] [] V4 Q) ∧ (z4 = 0 → Mf K d mX12_isWord [vR 369, vI 12] V4 (fun r V6 => ∃ z6, r = some (vI z6) ∧ ((¬ z6 = 0 → Wf K (d + 1) mX12_takePart 69 [some (vR 369), some (vI x1), some (vI s0), some (vI z1)] [] V6 Q) ∧ (z6 = 0 → ((¬ (V6 369 8) = 0 → Wf K (d + 1) mX12_takePart 79 [some (vR 369), some (vI x1), some (vI s0), some (vI z1)] [] V6 Q) ∧ ((V6 369 8) = 0 → (((0 : Int) ≤ (V6 369 7) ∧ (V6 369 7) < (1002 : Nat)) ∧ Wf K (d + 1) mX12_takePart 79 [some (vR 369), some (vI x1), some (vI s0), some (vI z1)] [] (upm V6 369 8 (w32 (1 + (w32 (16 * (V6 372 (Int.toNat (V6 369 7)))))))) Q))))))))))))))) : Wf K (d + 1) mX12_takePart 26 [some (vR 369), some (vI x1), none, none] [vI s0] V Q := by
  refine wp_istore_n dX12_takePart_26 rfl (by decide) rfl ?_
  refine wp_aload_n dX12_takePart_27 rfl rfl ?_
  refine wp_bipush dX12_takePart_28 (by decide) ?_
  refine wp_iconst dX12_takePart_30 (by decide) ?_
  refine wp_callV (S := []) (as := [vI 15, vI 4]) dX12_takePart_31 lX12_202 (h) (by omega) sh369 rfl rfl (Nat.le_of_ble_eq_true rfl) ⟨Nat.le_refl _, Nat.le_refl _⟩ ?_
  rintro _ _ V1 ⟨rfl, z1, rfl, q1⟩
  show Wp _ _ _ _ _ 34 _ [vI z1] _ _ _ _ _
  refine wp_istore_n dX12_takePart_34 rfl (by decide) rfl ?_
  refine wp_iload_n dX12_takePart_35 rfl rfl ?_
  refine wp_if_ge (tgt := 69) dX12_takePart_36 rfl (fun c2 => ?_) (fun c2 => ?_)
  ·
    exact (q1.1 c2)
  ·
    refine wp_iload_n dX12_takePart_39 rfl rfl ?_
    refine wp_if_ne (tgt := 69) dX12_takePart_40 rfl (fun c3 => ?_) (fun c3 => ?_)
    ·
      exact ((q1.2 c2).1 c3)
    ·
      refine wp_aload_n dX12_takePart_43 rfl rfl ?_
      refine wp_bipush dX12_takePart_44 (by decide) ?_
      refine wp_callV (S := []) (as := [vI 40]) dX12_takePart_46 lX12_190 (((q1.2 c2).2 c3)) (by omega) sh369 rfl rfl (Nat.le_of_ble_eq_true rfl) ⟨Nat.le_refl _, Nat.le_refl _⟩ ?_
      rintro _ _ V4 ⟨rfl, z4, rfl, q4⟩
      show Wp _ _ _ _ _ 49 _ [vI z4] _ _ _ _ _
      refine wp_if_ne (tgt := 69) dX12_takePart_49 rfl (fun c5 => ?_) (fun c5 => ?_)
      ·
        exact (q4.1 c5)
      ·
        refine wp_aload_n dX12_takePart_52 rfl rfl ?_
        refine wp_bipush dX12_takePart_53 (by decide) ?_
        refine wp_callV (S := []) (as := [vI 12]) dX12_takePart_55 lX12_196 ((q4.2 c5)) (by omega) sh369 rfl rfl (Nat.le_of_ble_eq_true rfl) ⟨Nat.le_refl _, Nat.le_refl _⟩ ?_
        rintro _ _ V6 ⟨rfl, z6, rfl, q6⟩
        show Wp _ _ _ _ _ 58 _ [vI z6] _ _ _ _ _
        refine wp_if_ne (tgt := 69) dX12_takePart_58 rfl (fun c7 => ?_) (fun c7 => ?_)
        ·
          exact (q6.1 c7)
        ·
          refine wp_aload_n dX12_takePart_61 rfl rfl ?_
          refine wp_iconst dX12_takePart_62 (by decide) ?_
          refine wp_inlV (d' := d) (S := []) (as := [vI 1]) dX12_takePart_63 lX12_193 (by omega) sh369 rfl rfl (Nat.le_of_ble_eq_true rfl) ⟨Nat.le_refl _, Nat.le_refl _⟩ (Mt.of2 (L := [some (vR 369), some (vI 1)]) pnX12 rfl rfl ?_)
          refine wp_aload_n dX12_wrong_0 rfl rfl ?_
          refine wp_getI dX12_wrong_1 fX12_187 rfl sh369 (by decide) ?_
          refine wp_if_ne (tgt := 25) dX12_wrong_4 rfl (fun c8 => ?_) (fun c8 => ?_)
          ·
            refine wp_return dX12_wrong_25 rfl ⟨rfl, rfl⟩ ?_
            show Wp _ _ _ _ _ 66 _ [] _ _ _ _ _
            refine wp_goto (tgt := 79) dX12_takePart_66 rfl ?_
            exact ((q6.2 c7).1 c8)
          ·
            refine wp_aload_n dX12_wrong_7 rfl rfl ?_
            refine wp_iload_n dX12_wrong_8 rfl rfl ?_
            refine wp_bipush dX12_wrong_9 (by decide) ?_
            refine wp_aload_n dX12_wrong_11 rfl rfl ?_
            refine wp_getR (b := 372) dX12_wrong_12 fX12_27 rfl sh369 (by decide) rfl ?_
            refine wp_aload_n dX12_wrong_15 rfl rfl ?_
            refine wp_getI dX12_wrong_16 fX12_184 rfl sh369 (by decide) ?_
            refine wp_iald dX12_wrong_19 sh372 ((q6.2 c7).2 c8).1 ?_
            refine wp_imul dX12_wrong_20 ?_
            refine wp_iadd dX12_wrong_21 ?_
            refine wp_putI dX12_wrong_22 fwX12_187 rfl sh369 (by decide) ?_
            refine wp_return dX12_wrong_25 rfl ⟨rfl, rfl⟩ ?_
            show Wp _ _ _ _ _ 66 _ [] _ _ _ _ _
            refine wp_goto (tgt := 79) dX12_takePart_66 rfl ?_
            exact ((q6.2 c7).2 c8).2
set_option maxHeartbeats 4000000 in
set_option maxRecDepth 10000 in
theorem sX12_takePart_69 {K : KK} {d : Nat} {V : Mem} {Q : Option AV → Mem → Prop} (x1 : Int) (x2 : Int) (x3 : Int) (h : ((¬ x1 = 5 → Wf K (d + 1) mX12_takePart 79 [some (vR 369), some (vI x1), some (vI x2), some (vI x3)] [] V Q) ∧ (x1 = 5 → ((¬ (V 369 8) = 0 → Wf K (d + 1) mX12_takePart 79 [some (vR 369), some (vI x1), some (vI x2), some (vI x3)] [] V Q) ∧ ((V 369 8) = 0 → (((0 : Int) ≤ (V 369 7) ∧ (V 369 7) < (1002 : Nat)) ∧ Wf K (d + 1) mX12_takePart 79 [some (vR 369), some (vI x1), some (vI x2), some (vI x3)] [] (upm V 369 8 (w32 (5 + (w32 (16 * (V 372 (Int.toNat (V 369 7)))))))) Q)))))) : Wf K (d + 1) mX12_takePart 69 [some (vR 369), some (vI x1), some (vI x2), some (vI x3)] [] V Q := by
  refine wp_iload_n dX12_takePart_69 rfl rfl ?_
  refine wp_iconst dX12_takePart_70 (by decide) ?_
  refine wp_icmp_ne (tgt := 79) dX12_takePart_71 rfl (fun c1 => ?_) (fun c1 => ?_)
  ·
    exact (h.1 c1)
  ·
    refine wp_aload_n dX12_takePart_74 rfl rfl ?_
    refine wp_iconst dX12_takePart_75 (by decide) ?_
    refine wp_inlV (d' := d) (S := []) (as := [vI 5]) dX12_takePart_76 lX12_193 (by omega) sh369 rfl rfl (Nat.le_of_ble_eq_true rfl) ⟨Nat.le_refl _, Nat.le_refl _⟩ (Mt.of2 (L := [some (vR 369), some (vI 5)]) pnX12 rfl rfl ?_)
    refine wp_aload_n dX12_wrong_0 rfl rfl ?_
    refine wp_getI dX12_wrong_1 fX12_187 rfl sh369 (by decide) ?_
    refine wp_if_ne (tgt := 25) dX12_wrong_4 rfl (fun c2 => ?_) (fun c2 => ?_)
    ·
      refine wp_return dX12_wrong_25 rfl ⟨rfl, rfl⟩ ?_
      show Wp _ _ _ _ _ 79 _ [] _ _ _ _ _
      exact ((h.2 c1).1 c2)
    ·
      refine wp_aload_n dX12_wrong_7 rfl rfl ?_
      refine wp_iload_n dX12_wrong_8 rfl rfl ?_
      refine wp_bipush dX12_wrong_9 (by decide) ?_
      refine wp_aload_n dX12_wrong_11 rfl rfl ?_
      refine wp_getR (b := 372) dX12_wrong_12 fX12_27 rfl sh369 (by decide) rfl ?_
      refine wp_aload_n dX12_wrong_15 rfl rfl ?_
      refine wp_getI dX12_wrong_16 fX12_184 rfl sh369 (by decide) ?_
      refine wp_iald dX12_wrong_19 sh372 ((h.2 c1).2 c2).1 ?_
      refine wp_imul dX12_wrong_20 ?_
      refine wp_iadd dX12_wrong_21 ?_
      refine wp_putI dX12_wrong_22 fwX12_187 rfl sh369 (by decide) ?_
      refine wp_return dX12_wrong_25 rfl ⟨rfl, rfl⟩ ?_
      show Wp _ _ _ _ _ 79 _ [] _ _ _ _ _
      exact ((h.2 c1).2 c2).2
set_option maxHeartbeats 4000000 in
set_option maxRecDepth 10000 in
theorem sX12_takePart_79 {K : KK} {d : Nat} {V : Mem} {Q : Option AV → Mem → Prop} (x1 : Int) (x2 : Int) (x3 : Int) (h : (((V 369 8) ≤ 0 → Mf K d mX12_hasWord [vR 369, vI 12] V (fun r V2 => ∃ z2, r = some (vI z2) ∧ ((z2 = 0 → Mf K d mX12_hasSign [vR 369, vI 40] V2 (fun r V4 => ∃ z4, r = some (vI z4) ∧ ((z4 = 0 → ((x2 = 0 → Wf K (d + 1) mX12_takePart 147 [some (vR 369), none, some (vI x2), some (vI x3)] [vI 2, vR 369] V4 Q) ∧ (¬ (x2 = 0) → Wf K (d + 1) mX12_takePart 147 [some (vR 369), none, some (vI x2), some (vI x3)] [vI 1, vR 369] V4 Q))) ∧ (¬ (z4 = 0) → Mf K d mX12_allOf [vR 369, vI (w32 (x1 + 1))] V4 (fun r V7 => r = none ∧ Mf K d mX12_takeSign [vR 369, vI 41] V7 (fun r V8 => r = none ∧ Q none V8)))))) ∧ (¬ (z2 = 0) → Mf K d mX12_takePart [vR 369, vI (w32 (x1 + 1))] V2 (fun r V9 => r = none ∧ (((0 : Int) ≤ (w32 (1100 + (V9 369 12))) ∧ (w32 (1100 + (V9 369 12))) < (2200 : Nat)) ∧ Q none (upm (upm V9 376 (Int.toNat (w32 (1100 + (V9 369 12)))) (w32 (3 + (w32 (16 * 0))))) 369 12 (w32 (((upm V9 376 (Int.toNat (w32 (1100 + (V9 369 12)))) (w32 (3 + (w32 (16 * 0))))) 369 12) + 1))))))))) ∧ (¬ ((V 369 8) ≤ 0) → Q none V))) : Wf K (d + 1) mX12_takePart 79 [some (vR 369), some (vI x1), some (vI x2), some (vI x3)] [] V Q := by
  refine wp_aload_n dX12_takePart_79 rfl rfl ?_
  refine wp_getI dX12_takePart_80 fX12_187 rfl sh369 (by decide) ?_
  refine wp_if_le (tgt := 87) dX12_takePart_83 rfl (fun c1 => ?_) (fun c1 => ?_)
  ·
    refine wp_aload_n dX12_takePart_87 rfl rfl ?_
    refine wp_bipush dX12_takePart_88 (by decide) ?_
    refine wp_callV (S := []) (as := [vI 12]) dX12_takePart_90 lX12_199 ((h.1 c1)) (by omega) sh369 rfl rfl (Nat.le_of_ble_eq_true rfl) ⟨Nat.le_refl _, Nat.le_refl _⟩ ?_
    rintro _ _ V2 ⟨rfl, z2, rfl, q2⟩
    show Wp _ _ _ _ _ 93 _ [vI z2] _ _ _ _ _
    refine wp_if_eq (tgt := 112) dX12_takePart_93 rfl (fun c3 => ?_) (fun c3 => ?_)
    ·
      refine wp_aload_n dX12_takePart_112 rfl rfl ?_
      refine wp_bipush dX12_takePart_113 (by decide) ?_
      refine wp_callV (S := []) (as := [vI 40]) dX12_takePart_115 lX12_259 ((q2.1 c3)) (by omega) sh369 rfl rfl (Nat.le_of_ble_eq_true rfl) ⟨Nat.le_refl _, Nat.le_refl _⟩ ?_
      rintro _ _ V4 ⟨rfl, z4, rfl, q4⟩
      show Wp _ _ _ _ _ 118 _ [vI z4] _ _ _ _ _
      refine wp_if_eq (tgt := 137) dX12_takePart_118 rfl (fun c5 => ?_) (fun c5 => ?_)
      ·
        refine wp_aload_n dX12_takePart_137 rfl rfl ?_
        refine wp_iload_n dX12_takePart_138 rfl rfl ?_
        refine wp_if_eq (tgt := 146) dX12_takePart_139 rfl (fun c6 => ?_) (fun c6 => ?_)
        ·
          refine wp_iconst dX12_takePart_146 (by decide) ?_
          exact wp_loc (L2 := [some (vR 369), none, some (vI x2), some (vI x3)]) ⟨rfl, ⟨rfl, ⟨rfl, trivial⟩⟩⟩ ((q4.1 c5).1 c6)
        ·
          refine wp_iconst dX12_takePart_142 (by decide) ?_
          refine wp_goto (tgt := 147) dX12_takePart_143 rfl ?_
          exact wp_loc (L2 := [some (vR 369), none, some (vI x2), some (vI x3)]) ⟨rfl, ⟨rfl, ⟨rfl, trivial⟩⟩⟩ ((q4.1 c5).2 c6)
      ·
        refine wp_aload_n dX12_takePart_121 rfl rfl ?_
        refine wp_iload_n dX12_takePart_122 rfl rfl ?_
        refine wp_iconst dX12_takePart_123 (by decide) ?_
        refine wp_iadd dX12_takePart_124 ?_
        refine wp_callV (S := []) (as := [vI (w32 (x1 + 1))]) dX12_takePart_125 lX12_234 ((q4.2 c5)) (by omega) sh369 rfl rfl (Nat.le_of_ble_eq_true rfl) ⟨Nat.le_refl _, Nat.le_refl _⟩ ?_
        rintro _ _ V7 ⟨rfl, rfl, q7⟩
        show Wp _ _ _ _ _ 128 _ [] _ _ _ _ _
        refine wp_aload_n dX12_takePart_128 rfl rfl ?_
        refine wp_bipush dX12_takePart_129 (by decide) ?_
        refine wp_callV (S := []) (as := [vI 41]) dX12_takePart_131 lX12_222 (q7) (by omega) sh369 rfl rfl (Nat.le_of_ble_eq_true rfl) ⟨Nat.le_refl _, Nat.le_refl _⟩ ?_
        rintro _ _ V8 ⟨rfl, rfl, q8⟩
        show Wp _ _ _ _ _ 134 _ [] _ _ _ _ _
        refine wp_goto (tgt := 178) dX12_takePart_134 rfl ?_
        exact wp_return dX12_takePart_178 rfl ⟨rfl, rfl⟩ ⟨rfl, q8⟩
    ·
      refine wp_aload_n dX12_takePart_96 rfl rfl ?_
      refine wp_iload_n dX12_takePart_97 rfl rfl ?_
      refine wp_iconst dX12_takePart_98 (by decide) ?_
      refine wp_iadd dX12_takePart_99 ?_
      refine wp_callV (S := []) (as := [vI (w32 (x1 + 1))]) dX12_takePart_100 lX12_265 ((q2.2 c3)) (by omega) sh369 rfl rfl (Nat.le_of_ble_eq_true rfl) ⟨Nat.le_refl _, Nat.le_refl _⟩ ?_
      rintro _ _ V9 ⟨rfl, rfl, q9⟩
      show Wp _ _ _ _ _ 103 _ [] _ _ _ _ _
      refine wp_aload_n dX12_takePart_103 rfl rfl ?_
      refine wp_iconst dX12_takePart_104 (by decide) ?_
      refine wp_iconst dX12_takePart_105 (by decide) ?_
      refine wp_inlV (d' := d) (S := []) (as := [vI 3, vI 0]) dX12_takePart_106 lX12_237 (by omega) sh369 rfl rfl (Nat.le_of_ble_eq_true rfl) ⟨Nat.le_refl _, Nat.le_refl _⟩ (Mt.of2 (L := [some (vR 369), some (vI 3), some (vI 0)]) pnX12 rfl rfl ?_)
      refine wp_aload_n dX12_emit_0 rfl rfl ?_
      refine wp_getR (b := 376) dX12_emit_1 fX12_78 rfl sh369 (by decide) rfl ?_
      refine wp_sipush dX12_emit_4 (by decide) ?_
      refine wp_aload_n dX12_emit_7 rfl rfl ?_
      refine wp_getI dX12_emit_8 fX12_216 rfl sh369 (by decide) ?_
      refine wp_iadd dX12_emit_11 ?_
      refine wp_iload_n dX12_emit_12 rfl rfl ?_
      refine wp_bipush dX12_emit_13 (by decide) ?_
      refine wp_iload_n dX12_emit_15 rfl rfl ?_
      refine wp_imul dX12_emit_16 ?_
      refine wp_iadd dX12_emit_17 ?_
      refine wp_iast dX12_emit_18 sh376 q9.1 ?_
      refine wp_aload_n dX12_emit_19 rfl rfl ?_
      refine wp_dup dX12_emit_20 rfl ?_
      refine wp_getI dX12_emit_21 fX12_216 rfl sh369 (by decide) ?_
      refine wp_iconst dX12_emit_24 (by decide) ?_
      refine wp_iadd dX12_emit_25 ?_
      refine wp_putI dX12_emit_26 fwX12_216 rfl sh369 (by decide) ?_
      refine wp_return dX12_emit_29 rfl ⟨rfl, rfl⟩ ?_
      show Wp _ _ _ _ _ 109 _ [] _ _ _ _ _
      refine wp_goto (tgt := 178) dX12_takePart_109 rfl ?_
      exact wp_return dX12_takePart_178 rfl ⟨rfl, rfl⟩ ⟨rfl, q9.2⟩
  ·
    exact wp_return dX12_takePart_86 rfl ⟨rfl, rfl⟩ ⟨rfl, (h.2 c1)⟩
set_option maxHeartbeats 4000000 in
set_option maxRecDepth 10000 in
theorem sX12_takePart_147 {K : KK} {d : Nat} {V : Mem} {Q : Option AV → Mem → Prop} (x2 : Int) (x3 : Int) (s1 : Int) (h : ((x2 = 0 → Wf K (d + 1) mX12_takePart 165 [some (vR 369), none, none, none] [vI x3, vI s1, vR 369] V Q) ∧ (¬ (x2 = 0) → (((0 : Int) ≤ (V 369 7) ∧ (V 369 7) < (1002 : Nat)) ∧ Wf K (d + 1) mX12_takePart 165 [some (vR 369), none, none, none] [vI (w32 (V 373 (Int.toNat (V 369 7)))), vI s1, vR 369] V Q)))) : Wf K (d + 1) mX12_takePart 147 [some (vR 369), none, some (vI x2), some (vI x3)] [vI s1, vR 369] V Q := by
  refine wp_iload_n dX12_takePart_147 rfl rfl ?_
  refine wp_if_eq (tgt := 164) dX12_takePart_148 rfl (fun c1 => ?_) (fun c1 => ?_)
  ·
    refine wp_iload_n dX12_takePart_164 rfl rfl ?_
    exact wp_loc (L2 := [some (vR 369), none, none, none]) ⟨rfl, trivial⟩ (h.1 c1)
  ·
    refine wp_aload_n dX12_takePart_151 rfl rfl ?_
    refine wp_getR (b := 373) dX12_takePart_152 fX12_30 rfl sh369 (by decide) rfl ?_
    refine wp_aload_n dX12_takePart_155 rfl rfl ?_
    refine wp_getI dX12_takePart_156 fX12_184 rfl sh369 (by decide) ?_
    refine wp_lald dX12_takePart_159 sh373 (h.2 c1).1 ?_
    refine wp_l2i dX12_takePart_160 ?_
    refine wp_goto (tgt := 165) dX12_takePart_161 rfl ?_
    exact wp_loc (L2 := [some (vR 369), none, none, none]) ⟨rfl, trivial⟩ (h.2 c1).2
set_option maxHeartbeats 4000000 in
set_option maxRecDepth 10000 in
theorem sX12_takePart_165 {K : KK} {d : Nat} {V : Mem} {Q : Option AV → Mem → Prop} (s1 : Int) (s2 : Int) (h : (((0 : Int) ≤ (w32 (1100 + (V 369 12))) ∧ (w32 (1100 + (V 369 12))) < (2200 : Nat)) ∧ Q none (upm (upm (upm V 376 (Int.toNat (w32 (1100 + (V 369 12)))) (w32 (s1 + (w32 (16 * s2))))) 369 12 (w32 (((upm V 376 (Int.toNat (w32 (1100 + (V 369 12)))) (w32 (s1 + (w32 (16 * s2))))) 369 12) + 1))) 369 7 (w32 (((upm (upm V 376 (Int.toNat (w32 (1100 + (V 369 12)))) (w32 (s1 + (w32 (16 * s2))))) 369 12 (w32 (((upm V 376 (Int.toNat (w32 (1100 + (V 369 12)))) (w32 (s1 + (w32 (16 * s2))))) 369 12) + 1))) 369 7) + 1))))) : Wf K (d + 1) mX12_takePart 165 [some (vR 369), none, none, none] [vI s2, vI s1, vR 369] V Q := by
  refine wp_inlV (d' := d) (S := []) (as := [vI s1, vI s2]) dX12_takePart_165 lX12_237 (by omega) sh369 rfl rfl (Nat.le_of_ble_eq_true rfl) ⟨Nat.le_refl _, Nat.le_refl _⟩ (Mt.of2 (L := [some (vR 369), some (vI s1), some (vI s2)]) pnX12 rfl rfl ?_)
  refine wp_aload_n dX12_emit_0 rfl rfl ?_
  refine wp_getR (b := 376) dX12_emit_1 fX12_78 rfl sh369 (by decide) rfl ?_
  refine wp_sipush dX12_emit_4 (by decide) ?_
  refine wp_aload_n dX12_emit_7 rfl rfl ?_
  refine wp_getI dX12_emit_8 fX12_216 rfl sh369 (by decide) ?_
  refine wp_iadd dX12_emit_11 ?_
  refine wp_iload_n dX12_emit_12 rfl rfl ?_
  refine wp_bipush dX12_emit_13 (by decide) ?_
  refine wp_iload_n dX12_emit_15 rfl rfl ?_
  refine wp_imul dX12_emit_16 ?_
  refine wp_iadd dX12_emit_17 ?_
  refine wp_iast dX12_emit_18 sh376 h.1 ?_
  refine wp_aload_n dX12_emit_19 rfl rfl ?_
  refine wp_dup dX12_emit_20 rfl ?_
  refine wp_getI dX12_emit_21 fX12_216 rfl sh369 (by decide) ?_
  refine wp_iconst dX12_emit_24 (by decide) ?_
  refine wp_iadd dX12_emit_25 ?_
  refine wp_putI dX12_emit_26 fwX12_216 rfl sh369 (by decide) ?_
  refine wp_return dX12_emit_29 rfl ⟨rfl, rfl⟩ ?_
  show Wp _ _ _ _ _ 168 _ [] _ _ _ _ _
  refine wp_aload_n dX12_takePart_168 rfl rfl ?_
  refine wp_dup dX12_takePart_169 rfl ?_
  refine wp_getI dX12_takePart_170 fX12_184 rfl sh369 (by decide) ?_
  refine wp_iconst dX12_takePart_173 (by decide) ?_
  refine wp_iadd dX12_takePart_174 ?_
  refine wp_putI dX12_takePart_175 fwX12_184 rfl sh369 (by decide) ?_
  exact wp_return dX12_takePart_178 rfl ⟨rfl, rfl⟩ ⟨rfl, h.2⟩
set_option maxHeartbeats 4000000 in
set_option maxRecDepth 10000 in
theorem sX12_worthAt {K : KK} {d : Nat} {V : Mem} {Q : Option AV → Mem → Prop} (x1 : Int) (h : Wf K (d + 1) mX12_worthAt 4 [some (vR 369), none, some (vI 0), some (vI x1), none] [] V Q) : Mf K (d + 1) mX12_worthAt [vR 369, vI x1] V Q := by
  refine Mt.of2 (L := [some (vR 369), some (vI x1), none, none, none]) pnX12 rfl rfl ?_
  refine wp_iconst dX12_worthAt_0 (by decide) ?_
  refine wp_istore_n dX12_worthAt_1 rfl (by decide) rfl ?_
  refine wp_iload_n dX12_worthAt_2 rfl rfl ?_
  refine wp_istore_n dX12_worthAt_3 rfl (by decide) rfl ?_
  exact wp_loc (L2 := [some (vR 369), none, some (vI 0), some (vI x1), none]) ⟨rfl, ⟨rfl, ⟨rfl, trivial⟩⟩⟩ h
set_option maxHeartbeats 4000000 in
set_option maxRecDepth 10000 in
theorem sX12_worthAt_4 {K : KK} {d : Nat} {V : Mem} {Q : Option AV → Mem → Prop} (x2 : Int) (x3 : Int) (h : (((0 : Int) ≤ x3 ∧ x3 < (2200 : Nat)) ∧ (((w32 ((V 376 (Int.toNat x3)) - w32 (w32 (Int.tdiv (V 376 (Int.toNat x3)) 16) * 16))) = 0 → Q (some (vI (V 380 0))) V) ∧ (¬ ((w32 ((V 376 (Int.toNat x3)) - w32 (w32 (Int.tdiv (V 376 (Int.toNat x3)) 16) * 16))) = 0) → (((0 : Int) ≤ x3 ∧ x3 < (2200 : Nat)) ∧ (((w32 ((V 376 (Int.toNat x3)) - w32 (w32 (Int.tdiv (V 376 (Int.toNat x3)) 16) * 16))) = 1 → Wf K (d + 1) mX12_worthAt 39 [some (vR 369), none, some (vI x2), some (vI x3), some (vI (w32 ((V 376 (Int.toNat x3)) - w32 (w32 (Int.tdiv (V 376 (Int.toNat x3)) 16) * 16))))] [] V Q) ∧ (¬ ((w32 ((V 376 (Int.toNat x3)) - w32 (w32 (Int.tdiv (V 376 (Int.toNat x3)) 16) * 16))) = 1) → ((¬ (w32 ((V 376 (Int.toNat x3)) - w32 (w32 (Int.tdiv (V 376 (Int.toNat x3)) 16) * 16))) = 2 → ((¬ (w32 ((V 376 (Int.toNat x3)) - w32 (w32 (Int.tdiv (V 376 (Int.toNat x3)) 16) * 16))) = 3 → (((0 : Int) ≤ (w32 ((w32 (x2 + (-1))) - 1)) ∧ (w32 ((w32 (x2 + (-1))) - 1)) < (64 : Nat)) ∧ (((0 : Int) ≤ (w32 (x2 + (-1))) ∧ (w32 (x2 + (-1))) < (64 : Nat)) ∧ Mf K d mX12_worked [vI (w32 ((V 376 (Int.toNat x3)) - w32 (w32 (Int.tdiv (V 376 (Int.toNat x3)) 16) * 16))), vI (V 380 (Int.toNat (w32 ((w32 (x2 + (-1))) - 1)))), vI (V 380 (Int.toNat (w32 (x2 + (-1)))))] V (fun r V5 => ∃ z5, r = some (vI z5) ∧ (((0 : Int) ≤ (w32 ((w32 (x2 + (-1))) - 1)) ∧ (w32 ((w32 (x2 + (-1))) - 1)) < (64 : Nat)) ∧ Wf K (d + 1) mX12_worthAt 146 [some (vR 369), none, some (vI (w32 (x2 + (-1)))), some (vI x3), none] [] (upm V5 380 (Int.toNat (w32 ((w32 (x2 + (-1))) - 1))) z5) Q))))) ∧ ((w32 ((V 376 (Int.toNat x3)) - w32 (w32 (Int.tdiv (V 376 (Int.toNat x3)) 16) * 16))) = 3 → (((0 : Int) ≤ (w32 (x2 - 1)) ∧ (w32 (x2 - 1)) < (64 : Nat)) ∧ ((¬ (V 380 (Int.toNat (w32 (x2 - 1)))) = 0 → Wf K (d + 1) mX12_worthAt 112 [some (vR 369), none, some (vI x2), some (vI x3), none] [vI 0, vI (w32 (x2 - 1)), vR 380] V Q) ∧ ((V 380 (Int.toNat (w32 (x2 - 1)))) = 0 → Wf K (d + 1) mX12_worthAt 112 [some (vR 369), none, some (vI x2), some (vI x3), none] [vI 1, vI (w32 (x2 - 1)), vR 380] V Q)))))) ∧ ((w32 ((V 376 (Int.toNat x3)) - w32 (w32 (Int.tdiv (V 376 (Int.toNat x3)) 16) * 16))) = 2 → Wf K (d + 1) mX12_worthAt 39 [some (vR 369), none, some (vI x2), some (vI x3), some (vI (w32 ((V 376 (Int.toNat x3)) - w32 (w32 (Int.tdiv (V 376 (Int.toNat x3)) 16) * 16))))] [] V Q))))))))) : Wf K (d + 1) mX12_worthAt 4 [some (vR 369), none, some (vI x2), some (vI x3), none] [] V Q := by
  refine wp_aload_n dX12_worthAt_4 rfl rfl ?_
  refine wp_getR (b := 376) dX12_worthAt_5 fX12_78 rfl sh369 (by decide) rfl ?_
  refine wp_iload_n dX12_worthAt_8 rfl rfl ?_
  refine wp_iald dX12_worthAt_9 sh376 h.1 ?_
  refine wp_bipush dX12_worthAt_10 (by decide) ?_
  refine wp_irem dX12_worthAt_12 (by decide) ?_
  refine wp_if_eq (tgt := 152) dX12_worthAt_13 rfl (fun c1 => ?_) (fun c1 => ?_)
  ·
    refine wp_aload_n dX12_worthAt_152 rfl rfl ?_
    refine wp_getR (b := 380) dX12_worthAt_153 fX12_90 rfl sh369 (by decide) rfl ?_
    refine wp_iconst dX12_worthAt_156 (by decide) ?_
    refine wp_iald dX12_worthAt_157 sh380 (by decide) ?_
    exact wp_ireturn dX12_worthAt_158 rfl ⟨rfl, rfl⟩ ⟨rfl, (h.2.1 c1)⟩
  ·
    refine wp_aload_n dX12_worthAt_16 rfl rfl ?_
    refine wp_getR (b := 376) dX12_worthAt_17 fX12_78 rfl sh369 (by decide) rfl ?_
    refine wp_iload_n dX12_worthAt_20 rfl rfl ?_
    refine wp_iald dX12_worthAt_21 sh376 (h.2.2 c1).1 ?_
    refine wp_bipush dX12_worthAt_22 (by decide) ?_
    refine wp_irem dX12_worthAt_24 (by decide) ?_
    refine wp_istore dX12_worthAt_25 (by decide) rfl ?_
    refine wp_iload dX12_worthAt_27 rfl ?_
    refine wp_iconst dX12_worthAt_29 (by decide) ?_
    refine wp_icmp_eq (tgt := 39) dX12_worthAt_30 rfl (fun c2 => ?_) (fun c2 => ?_)
    ·
      exact ((h.2.2 c1).2.1 c2)
    ·
      refine wp_iload dX12_worthAt_33 rfl ?_
      refine wp_iconst dX12_worthAt_35 (by decide) ?_
      refine wp_icmp_ne (tgt := 83) dX12_worthAt_36 rfl (fun c3 => ?_) (fun c3 => ?_)
      ·
        refine wp_iload dX12_worthAt_83 rfl ?_
        refine wp_iconst dX12_worthAt_85 (by decide) ?_
        refine wp_icmp_ne (tgt := 116) dX12_worthAt_86 rfl (fun c4 => ?_) (fun c4 => ?_)
        ·
          refine wp_iinc dX12_worthAt_116 rfl rfl ?_
          refine wp_aload_n dX12_worthAt_119 rfl rfl ?_
          refine wp_getR (b := 380) dX12_worthAt_120 fX12_90 rfl sh369 (by decide) rfl ?_
          refine wp_iload_n dX12_worthAt_123 rfl rfl ?_
          refine wp_iconst dX12_worthAt_124 (by decide) ?_
          refine wp_isub dX12_worthAt_125 ?_
          refine wp_iload dX12_worthAt_126 rfl ?_
          refine wp_aload_n dX12_worthAt_128 rfl rfl ?_
          refine wp_getR (b := 380) dX12_worthAt_129 fX12_90 rfl sh369 (by decide) rfl ?_
          refine wp_iload_n dX12_worthAt_132 rfl rfl ?_
          refine wp_iconst dX12_worthAt_133 (by decide) ?_
          refine wp_isub dX12_worthAt_134 ?_
          refine wp_iald dX12_worthAt_135 sh380 ((((h.2.2 c1).2.2 c2).1 c3).1 c4).1 ?_
          refine wp_aload_n dX12_worthAt_136 rfl rfl ?_
          refine wp_getR (b := 380) dX12_worthAt_137 fX12_90 rfl sh369 (by decide) rfl ?_
          refine wp_iload_n dX12_worthAt_140 rfl rfl ?_
          refine wp_iald dX12_worthAt_141 sh380 ((((h.2.2 c1).2.2 c2).1 c3).1 c4).2.1 ?_
          refine wp_callS (S := [vI (w32 ((w32 (x2 + (-1))) - 1)), vR 380]) (as := [vI (w32 ((V 376 (Int.toNat x3)) - w32 (w32 (Int.tdiv (V 376 (Int.toNat x3)) 16) * 16))), vI (V 380 (Int.toNat (w32 ((w32 (x2 + (-1))) - 1)))), vI (V 380 (Int.toNat (w32 (x2 + (-1)))))]) dX12_worthAt_142 lX12_268 (((((h.2.2 c1).2.2 c2).1 c3).1 c4).2.2) (by omega) rfl rfl (Nat.le_of_ble_eq_true rfl) ⟨Nat.le_refl _, Nat.le_refl _⟩ ?_
          rintro _ _ V5 ⟨rfl, z5, rfl, q5⟩
          show Wp _ _ _ _ _ 145 _ [vI z5, vI (w32 ((w32 (x2 + (-1))) - 1)), vR 380] _ _ _ _ _
          refine wp_iast dX12_worthAt_145 sh380 q5.1 ?_
          exact wp_loc (L2 := [some (vR 369), none, some (vI (w32 (x2 + (-1)))), some (vI x3), none]) ⟨rfl, ⟨rfl, ⟨rfl, trivial⟩⟩⟩ q5.2
        ·
          refine wp_aload_n dX12_worthAt_89 rfl rfl ?_
          refine wp_getR (b := 380) dX12_worthAt_90 fX12_90 rfl sh369 (by decide) rfl ?_
          refine wp_iload_n dX12_worthAt_93 rfl rfl ?_
          refine wp_iconst dX12_worthAt_94 (by decide) ?_
          refine wp_isub dX12_worthAt_95 ?_
          refine wp_aload_n dX12_worthAt_96 rfl rfl ?_
          refine wp_getR (b := 380) dX12_worthAt_97 fX12_90 rfl sh369 (by decide) rfl ?_
          refine wp_iload_n dX12_worthAt_100 rfl rfl ?_
          refine wp_iconst dX12_worthAt_101 (by decide) ?_
          refine wp_isub dX12_worthAt_102 ?_
          refine wp_iald dX12_worthAt_103 sh380 ((((h.2.2 c1).2.2 c2).1 c3).2 c4).1 ?_
          refine wp_if_ne (tgt := 111) dX12_worthAt_104 rfl (fun c6 => ?_) (fun c6 => ?_)
          ·
            refine wp_iconst dX12_worthAt_111 (by decide) ?_
            exact wp_loc (L2 := [some (vR 369), none, some (vI x2), some (vI x3), none]) ⟨rfl, ⟨rfl, ⟨rfl, trivial⟩⟩⟩ (((((h.2.2 c1).2.2 c2).1 c3).2 c4).2.1 c6)
          ·
            refine wp_iconst dX12_worthAt_107 (by decide) ?_
            refine wp_goto (tgt := 112) dX12_worthAt_108 rfl ?_
            exact wp_loc (L2 := [some (vR 369), none, some (vI x2), some (vI x3), none]) ⟨rfl, ⟨rfl, ⟨rfl, trivial⟩⟩⟩ (((((h.2.2 c1).2.2 c2).1 c3).2 c4).2.2 c6)
      ·
        exact (((h.2.2 c1).2.2 c2).2 c3)
set_option maxHeartbeats 4000000 in
set_option maxRecDepth 10000 in
theorem sX12_worthAt_39 {K : KK} {d : Nat} {V : Mem} {Q : Option AV → Mem → Prop} (x2 : Int) (x3 : Int) (x4 : Int) (h : ((¬ x4 = 1 → (((0 : Int) ≤ x3 ∧ x3 < (2200 : Nat)) ∧ (((0 : Int) ≤ (w32 (Int.tdiv (V 376 (Int.toNat x3)) 16)) ∧ (w32 (Int.tdiv (V 376 (Int.toNat x3)) 16)) < (4 : Nat)) ∧ Wf K (d + 1) mX12_worthAt 76 [some (vR 369), none, some (vI x2), some (vI x3), none] [vI (V 379 (Int.toNat (w32 (Int.tdiv (V 376 (Int.toNat x3)) 16)))), vI x2, vR 380] V Q))) ∧ (x4 = 1 → (((0 : Int) ≤ x3 ∧ x3 < (2200 : Nat)) ∧ Wf K (d + 1) mX12_worthAt 76 [some (vR 369), none, some (vI x2), some (vI x3), none] [vI (w32 (Int.tdiv (V 376 (Int.toNat x3)) 16)), vI x2, vR 380] V Q)))) : Wf K (d + 1) mX12_worthAt 39 [some (vR 369), none, some (vI x2), some (vI x3), some (vI x4)] [] V Q := by
  refine wp_aload_n dX12_worthAt_39 rfl rfl ?_
  refine wp_getR (b := 380) dX12_worthAt_40 fX12_90 rfl sh369 (by decide) rfl ?_
  refine wp_iload_n dX12_worthAt_43 rfl rfl ?_
  refine wp_iload dX12_worthAt_44 rfl ?_
  refine wp_iconst dX12_worthAt_46 (by decide) ?_
  refine wp_icmp_ne (tgt := 62) dX12_worthAt_47 rfl (fun c1 => ?_) (fun c1 => ?_)
  ·
    refine wp_aload_n dX12_worthAt_62 rfl rfl ?_
    refine wp_getR (b := 379) dX12_worthAt_63 fX12_87 rfl sh369 (by decide) rfl ?_
    refine wp_aload_n dX12_worthAt_66 rfl rfl ?_
    refine wp_getR (b := 376) dX12_worthAt_67 fX12_78 rfl sh369 (by decide) rfl ?_
    refine wp_iload_n dX12_worthAt_70 rfl rfl ?_
    refine wp_iald dX12_worthAt_71 sh376 (h.1 c1).1 ?_
    refine wp_bipush dX12_worthAt_72 (by decide) ?_
    refine wp_idiv dX12_worthAt_74 (by decide) ?_
    refine wp_iald dX12_worthAt_75 sh379 (h.1 c1).2.1 ?_
    exact wp_loc (L2 := [some (vR 369), none, some (vI x2), some (vI x3), none]) ⟨rfl, ⟨rfl, ⟨rfl, trivial⟩⟩⟩ (h.1 c1).2.2
  ·
    refine wp_aload_n dX12_worthAt_50 rfl rfl ?_
    refine wp_getR (b := 376) dX12_worthAt_51 fX12_78 rfl sh369 (by decide) rfl ?_
    refine wp_iload_n dX12_worthAt_54 rfl rfl ?_
    refine wp_iald dX12_worthAt_55 sh376 (h.2 c1).1 ?_
    refine wp_bipush dX12_worthAt_56 (by decide) ?_
    refine wp_idiv dX12_worthAt_58 (by decide) ?_
    refine wp_goto (tgt := 76) dX12_worthAt_59 rfl ?_
    exact wp_loc (L2 := [some (vR 369), none, some (vI x2), some (vI x3), none]) ⟨rfl, ⟨rfl, ⟨rfl, trivial⟩⟩⟩ (h.2 c1).2
set_option maxHeartbeats 4000000 in
set_option maxRecDepth 10000 in
theorem sX12_worthAt_146 {K : KK} {d : Nat} {V : Mem} {Q : Option AV → Mem → Prop} (x2 : Int) (x3 : Int) (h : Wf K (d + 1) mX12_worthAt 4 [some (vR 369), none, some (vI x2), some (vI (w32 (x3 + 1))), none] [] V Q) : Wf K (d + 1) mX12_worthAt 146 [some (vR 369), none, some (vI x2), some (vI x3), none] [] V Q := by
  refine wp_iinc dX12_worthAt_146 rfl rfl ?_
  refine wp_goto (tgt := 4) dX12_worthAt_149 rfl ?_
  exact h
set_option maxHeartbeats 4000000 in
set_option maxRecDepth 10000 in
theorem sX12_worthAt_112 {K : KK} {d : Nat} {V : Mem} {Q : Option AV → Mem → Prop} (x2 : Int) (x3 : Int) (s1 : Int) (s2 : Int) (h : (((0 : Int) ≤ s1 ∧ s1 < (64 : Nat)) ∧ Wf K (d + 1) mX12_worthAt 146 [some (vR 369), none, some (vI x2), some (vI x3), none] [] (upm V 380 (Int.toNat s1) s2) Q)) : Wf K (d + 1) mX12_worthAt 112 [some (vR 369), none, some (vI x2), some (vI x3), none] [vI s2, vI s1, vR 380] V Q := by
  refine wp_iast dX12_worthAt_112 sh380 h.1 ?_
  refine wp_goto (tgt := 146) dX12_worthAt_113 rfl ?_
  exact h.2
set_option maxHeartbeats 4000000 in
set_option maxRecDepth 10000 in
theorem sX12_worthAt_76 {K : KK} {d : Nat} {V : Mem} {Q : Option AV → Mem → Prop} (x2 : Int) (x3 : Int) (s1 : Int) (s2 : Int) (h : (((0 : Int) ≤ s1 ∧ s1 < (64 : Nat)) ∧ Wf K (d + 1) mX12_worthAt 146 [some (vR 369), none, some (vI (w32 (x2 + 1))), some (vI x3), none] [] (upm V 380 (Int.toNat s1) s2) Q)) : Wf K (d + 1) mX12_worthAt 76 [some (vR 369), none, some (vI x2), some (vI x3), none] [vI s2, vI s1, vR 380] V Q := by
  refine wp_iast dX12_worthAt_76 sh380 h.1 ?_
  refine wp_iinc dX12_worthAt_77 rfl rfl ?_
  refine wp_goto (tgt := 146) dX12_worthAt_80 rfl ?_
  exact h.2
set_option maxHeartbeats 4000000 in
set_option maxRecDepth 10000 in
theorem sX12_worked {K : KK} {d : Nat} {V : Mem} {Q : Option AV → Mem → Prop} (x0 : Int) (x1 : Int) (x2 : Int) (h : ((x0 = 4 → Q (some (vI (w32 (x1 + x2)))) V) ∧ (x0 = 5 → Q (some (vI (w32 (x1 - x2)))) V) ∧ (x0 = 6 → Q (some (vI (w32 (x1 * x2)))) V) ∧ (x0 = 7 → ((x2 ≤ x1 → Q (some (vI 0)) V) ∧ (¬ (x2 ≤ x1) → Q (some (vI 1)) V))) ∧ (x0 = 8 → ((¬ x1 = x2 → Q (some (vI 0)) V) ∧ (x1 = x2 → Q (some (vI 1)) V))) ∧ (x0 = 9 → ((x1 = 0 → Q (some (vI 0)) V) ∧ (¬ (x1 = 0) → ((x2 = 0 → Q (some (vI 0)) V) ∧ (¬ (x2 = 0) → Q (some (vI 1)) V))))) ∧ ((x0 < 4 ∨ 9 < x0) → ((¬ x1 = 0 → Q (some (vI 1)) V) ∧ (x1 = 0 → ((x2 = 0 → Q (some (vI 0)) V) ∧ (¬ (x2 = 0) → Q (some (vI 1)) V))))))) : Mf K d mX12_worked [vI x0, vI x1, vI x2] V Q := by
  refine Mt.of2 (L := [some (vI x0), some (vI x1), some (vI x2)]) pnX12 rfl rfl ?_
  refine wp_iload_n dX12_worked_0 rfl rfl ?_
  refine tswS 4 9 x0 (fun o7 => ?_) (fun l7 u7 => ?_)
  ·
    refine wp_tswOut (tgt := 88) dX12_worked_1 o7 rfl ?_
    refine wp_iload_n dX12_worked_88 rfl rfl ?_
    refine wp_if_ne (tgt := 96) dX12_worked_89 rfl (fun c5 => ?_) (fun c5 => ?_)
    ·
      refine wp_iconst dX12_worked_96 (by decide) ?_
      refine wp_goto (tgt := 101) dX12_worked_97 rfl ?_
      exact wp_ireturn dX12_worked_101 rfl ⟨rfl, rfl⟩ ⟨rfl, (((h.2.2.2.2.2.2) o7).1 c5)⟩
    ·
      refine wp_iload_n dX12_worked_92 rfl rfl ?_
      refine wp_if_eq (tgt := 100) dX12_worked_93 rfl (fun c6 => ?_) (fun c6 => ?_)
      ·
        refine wp_iconst dX12_worked_100 (by decide) ?_
        exact wp_ireturn dX12_worked_101 rfl ⟨rfl, rfl⟩ ⟨rfl, ((((h.2.2.2.2.2.2) o7).2 c5).1 c6)⟩
      ·
        refine wp_iconst dX12_worked_96 (by decide) ?_
        refine wp_goto (tgt := 101) dX12_worked_97 rfl ?_
        exact wp_ireturn dX12_worked_101 rfl ⟨rfl, rfl⟩ ⟨rfl, ((((h.2.2.2.2.2.2) o7).2 c5).2 c6)⟩
  ·
    rcases (show x0 = 4 ∨ x0 = 5 ∨ x0 = 6 ∨ x0 = 7 ∨ x0 = 8 ∨ x0 = 9 by omega) with e7 | e7 | e7 | e7 | e7 | e7
    ·
      refine wp_tswIn (tgt := 40) dX12_worked_1 l7 u7 (by rw [e7] <;> rfl) rfl ?_
      refine wp_iload_n dX12_worked_40 rfl rfl ?_
      refine wp_iload_n dX12_worked_41 rfl rfl ?_
      refine wp_iadd dX12_worked_42 ?_
      exact wp_ireturn dX12_worked_43 rfl ⟨rfl, rfl⟩ ⟨rfl, ((h.1) e7)⟩
    ·
      refine wp_tswIn (tgt := 44) dX12_worked_1 l7 u7 (by rw [e7] <;> rfl) rfl ?_
      refine wp_iload_n dX12_worked_44 rfl rfl ?_
      refine wp_iload_n dX12_worked_45 rfl rfl ?_
      refine wp_isub dX12_worked_46 ?_
      exact wp_ireturn dX12_worked_47 rfl ⟨rfl, rfl⟩ ⟨rfl, ((h.2.1) e7)⟩
    ·
      refine wp_tswIn (tgt := 48) dX12_worked_1 l7 u7 (by rw [e7] <;> rfl) rfl ?_
      refine wp_iload_n dX12_worked_48 rfl rfl ?_
      refine wp_iload_n dX12_worked_49 rfl rfl ?_
      refine wp_imul dX12_worked_50 ?_
      exact wp_ireturn dX12_worked_51 rfl ⟨rfl, rfl⟩ ⟨rfl, ((h.2.2.1) e7)⟩
    ·
      refine wp_tswIn (tgt := 52) dX12_worked_1 l7 u7 (by rw [e7] <;> rfl) rfl ?_
      refine wp_iload_n dX12_worked_52 rfl rfl ?_
      refine wp_iload_n dX12_worked_53 rfl rfl ?_
      refine wp_icmp_ge (tgt := 61) dX12_worked_54 rfl (fun c1 => ?_) (fun c1 => ?_)
      ·
        refine wp_iconst dX12_worked_61 (by decide) ?_
        exact wp_ireturn dX12_worked_62 rfl ⟨rfl, rfl⟩ ⟨rfl, (((h.2.2.2.1) e7).1 c1)⟩
      ·
        refine wp_iconst dX12_worked_57 (by decide) ?_
        refine wp_goto (tgt := 62) dX12_worked_58 rfl ?_
        exact wp_ireturn dX12_worked_62 rfl ⟨rfl, rfl⟩ ⟨rfl, (((h.2.2.2.1) e7).2 c1)⟩
    ·
      refine wp_tswIn (tgt := 63) dX12_worked_1 l7 u7 (by rw [e7] <;> rfl) rfl ?_
      refine wp_iload_n dX12_worked_63 rfl rfl ?_
      refine wp_iload_n dX12_worked_64 rfl rfl ?_
      refine wp_icmp_ne (tgt := 72) dX12_worked_65 rfl (fun c2 => ?_) (fun c2 => ?_)
      ·
        refine wp_iconst dX12_worked_72 (by decide) ?_
        exact wp_ireturn dX12_worked_73 rfl ⟨rfl, rfl⟩ ⟨rfl, (((h.2.2.2.2.1) e7).1 c2)⟩
      ·
        refine wp_iconst dX12_worked_68 (by decide) ?_
        refine wp_goto (tgt := 73) dX12_worked_69 rfl ?_
        exact wp_ireturn dX12_worked_73 rfl ⟨rfl, rfl⟩ ⟨rfl, (((h.2.2.2.2.1) e7).2 c2)⟩
    ·
      refine wp_tswIn (tgt := 74) dX12_worked_1 l7 u7 (by rw [e7] <;> rfl) rfl ?_
      refine wp_iload_n dX12_worked_74 rfl rfl ?_
      refine wp_if_eq (tgt := 86) dX12_worked_75 rfl (fun c3 => ?_) (fun c3 => ?_)
      ·
        refine wp_iconst dX12_worked_86 (by decide) ?_
        exact wp_ireturn dX12_worked_87 rfl ⟨rfl, rfl⟩ ⟨rfl, (((h.2.2.2.2.2.1) e7).1 c3)⟩
      ·
        refine wp_iload_n dX12_worked_78 rfl rfl ?_
        refine wp_if_eq (tgt := 86) dX12_worked_79 rfl (fun c4 => ?_) (fun c4 => ?_)
        ·
          refine wp_iconst dX12_worked_86 (by decide) ?_
          exact wp_ireturn dX12_worked_87 rfl ⟨rfl, rfl⟩ ⟨rfl, ((((h.2.2.2.2.2.1) e7).2 c3).1 c4)⟩
        ·
          refine wp_iconst dX12_worked_82 (by decide) ?_
          refine wp_goto (tgt := 87) dX12_worked_83 rfl ?_
          exact wp_ireturn dX12_worked_87 rfl ⟨rfl, rfl⟩ ⟨rfl, ((((h.2.2.2.2.2.1) e7).2 c3).2 c4)⟩
set_option maxHeartbeats 4000000 in
set_option maxRecDepth 10000 in
theorem sX12_moves {K : KK} {d : Nat} {V : Mem} {Q : Option AV → Mem → Prop} (x1 : Int) (x2 : Int) (x3 : Int) (h : Wf K d mX12_moves 3 [some (vR 369), some (vI x1), some (vI x2), some (vI x3), some (vI 0)] [] V Q) : Mf K d mX12_moves [vR 369, vI x1, vI x2, vI x3] V Q := by
  refine Mt.of2 (L := [some (vR 369), some (vI x1), some (vI x2), some (vI x3), none]) pnX12 rfl rfl ?_
  refine wp_iconst dX12_moves_0 (by decide) ?_
  refine wp_istore dX12_moves_1 (by decide) rfl ?_
  exact h
set_option maxHeartbeats 4000000 in
set_option maxRecDepth 10000 in
theorem sX12_moves_3 {K : KK} {d : Nat} {V : Mem} {Q : Option AV → Mem → Prop} (x1 : Int) (x2 : Int) (x3 : Int) (x4 : Int) (h : ((x3 ≤ x4 → Q none V) ∧ (¬ (x3 ≤ x4) → (((0 : Int) ≤ (w32 (x1 + x4)) ∧ (w32 (x1 + x4)) < (4532 : Nat)) ∧ (((0 : Int) ≤ (w32 (x2 + x4)) ∧ (w32 (x2 + x4)) < (4532 : Nat)) ∧ Wf K d mX12_moves 3 [some (vR 369), some (vI x1), some (vI x2), some (vI x3), some (vI (w32 (x4 + 1)))] [] (upm V 381 (Int.toNat (w32 (x2 + x4))) (V 381 (Int.toNat (w32 (x1 + x4))))) Q))))) : Wf K d mX12_moves 3 [some (vR 369), some (vI x1), some (vI x2), some (vI x3), some (vI x4)] [] V Q := by
  refine wp_iload dX12_moves_3 rfl ?_
  refine wp_iload_n dX12_moves_5 rfl rfl ?_
  refine wp_icmp_ge (tgt := 33) dX12_moves_6 rfl (fun c1 => ?_) (fun c1 => ?_)
  ·
    exact wp_return dX12_moves_33 rfl ⟨rfl, rfl⟩ ⟨rfl, (h.1 c1)⟩
  ·
    refine wp_aload_n dX12_moves_9 rfl rfl ?_
    refine wp_getR (b := 381) dX12_moves_10 fX12_93 rfl sh369 (by decide) rfl ?_
    refine wp_iload_n dX12_moves_13 rfl rfl ?_
    refine wp_iload dX12_moves_14 rfl ?_
    refine wp_iadd dX12_moves_16 ?_
    refine wp_aload_n dX12_moves_17 rfl rfl ?_
    refine wp_getR (b := 381) dX12_moves_18 fX12_93 rfl sh369 (by decide) rfl ?_
    refine wp_iload_n dX12_moves_21 rfl rfl ?_
    refine wp_iload dX12_moves_22 rfl ?_
    refine wp_iadd dX12_moves_24 ?_
    refine wp_iald dX12_moves_25 sh381 (h.2 c1).1 ?_
    refine wp_iast dX12_moves_26 sh381 (h.2 c1).2.1 ?_
    refine wp_iinc dX12_moves_27 rfl rfl ?_
    refine wp_goto (tgt := 3) dX12_moves_30 rfl ?_
    exact (h.2 c1).2.2
set_option maxHeartbeats 4000000 in
set_option maxRecDepth 10000 in
theorem sX12_starts {K : KK} {d : Nat} {V : Mem} {Q : Option AV → Mem → Prop} (x1 : Int) (h : Wf K (d + 1) mX12_starts 2 [some (vR 369), some (vI x1), some (vI 0), none] [] V Q) : Mf K (d + 1) mX12_starts [vR 369, vI x1] V Q := by
  refine Mt.of2 (L := [some (vR 369), some (vI x1), none, none]) pnX12 rfl rfl ?_
  refine wp_iconst dX12_starts_0 (by decide) ?_
  refine wp_istore_n dX12_starts_1 rfl (by decide) rfl ?_
  exact h
set_option maxHeartbeats 4000000 in
set_option maxRecDepth 10000 in
theorem sX12_starts_2 {K : KK} {d : Nat} {V : Mem} {Q : Option AV → Mem → Prop} (x1 : Int) (x2 : Int) (h : ((181 ≤ x2 → Wf K (d + 1) mX12_starts 26 [some (vR 369), some (vI x1), some (vI 0), none] [] V Q) ∧ (¬ (181 ≤ x2) → (((0 : Int) ≤ (w32 (x1 + x2)) ∧ (w32 (x1 + x2)) < (4532 : Nat)) ∧ Wf K (d + 1) mX12_starts 2 [some (vR 369), some (vI x1), some (vI (w32 (x2 + 1))), none] [] (upm V 381 (Int.toNat (w32 (x1 + x2))) 0) Q)))) : Wf K (d + 1) mX12_starts 2 [some (vR 369), some (vI x1), some (vI x2), none] [] V Q := by
  refine wp_iload_n dX12_starts_2 rfl rfl ?_
  refine wp_sipush dX12_starts_3 (by decide) ?_
  refine wp_icmp_ge (tgt := 24) dX12_starts_6 rfl (fun c1 => ?_) (fun c1 => ?_)
  ·
    refine wp_iconst dX12_starts_24 (by decide) ?_
    refine wp_istore_n dX12_starts_25 rfl (by decide) rfl ?_
    exact (h.1 c1)
  ·
    refine wp_aload_n dX12_starts_9 rfl rfl ?_
    refine wp_getR (b := 381) dX12_starts_10 fX12_93 rfl sh369 (by decide) rfl ?_
    refine wp_iload_n dX12_starts_13 rfl rfl ?_
    refine wp_iload_n dX12_starts_14 rfl rfl ?_
    refine wp_iadd dX12_starts_15 ?_
    refine wp_iconst dX12_starts_16 (by decide) ?_
    refine wp_iast dX12_starts_17 sh381 (h.2 c1).1 ?_
    refine wp_iinc dX12_starts_18 rfl rfl ?_
    refine wp_goto (tgt := 2) dX12_starts_21 rfl ?_
    exact (h.2 c1).2
set_option maxHeartbeats 4000000 in
set_option maxRecDepth 10000 in
theorem sX12_starts_26 {K : KK} {d : Nat} {V : Mem} {Q : Option AV → Mem → Prop} (x1 : Int) (x2 : Int) (h : (((V 375 0) ≤ x2 → (((0 : Int) ≤ (w32 (x1 + 84)) ∧ (w32 (x1 + 84)) < (4532 : Nat)) ∧ Wf K (d + 1) mX12_starts 128 [some (vR 369), some (vI x1), some (vI 0), none] [] (upm V 381 (Int.toNat (w32 (x1 + 84))) (V 375 1)) Q)) ∧ (¬ ((V 375 0) ≤ x2) → (((0 : Int) ≤ (w32 ((w32 (3 + (w32 (22 * x2)))) + 1)) ∧ (w32 ((w32 (3 + (w32 (22 * x2)))) + 1)) < (280 : Nat)) ∧ (((0 : Int) ≤ (w32 (x1 + x2)) ∧ (w32 (x1 + x2)) < (4532 : Nat)) ∧ Wf K (d + 1) mX12_starts 57 [some (vR 369), some (vI x1), some (vI x2), some (vI 0)] [] (upm V 381 (Int.toNat (w32 (x1 + x2))) (V 375 (Int.toNat (w32 ((w32 (3 + (w32 (22 * x2)))) + 1))))) Q))))) : Wf K (d + 1) mX12_starts 26 [some (vR 369), some (vI x1), some (vI x2), none] [] V Q := by
  refine wp_iload_n dX12_starts_26 rfl rfl ?_
  refine wp_aload_n dX12_starts_27 rfl rfl ?_
  refine wp_inlV (d' := d) (S := [vI x2]) (as := []) dX12_starts_28 lX12_272 (by omega) sh369 rfl rfl (Nat.le_of_ble_eq_true rfl) ⟨Nat.le_refl _, Nat.le_refl _⟩ (Mt.of2 (L := [some (vR 369)]) pnX12 rfl rfl ?_)
  refine wp_aload_n dX12_rows_0 rfl rfl ?_
  refine wp_getR (b := 375) dX12_rows_1 fX12_75 rfl sh369 (by decide) rfl ?_
  refine wp_iconst dX12_rows_4 (by decide) ?_
  refine wp_iald dX12_rows_5 sh375 (by decide) ?_
  refine wp_ireturn dX12_rows_6 rfl ⟨rfl, rfl⟩ ?_
  show Wp _ _ _ _ _ 31 _ [vI (V 375 0), vI x2] _ _ _ _ _
  refine wp_icmp_ge (tgt := 111) dX12_starts_31 rfl (fun c1 => ?_) (fun c1 => ?_)
  ·
    refine wp_aload_n dX12_starts_111 rfl rfl ?_
    refine wp_getR (b := 381) dX12_starts_112 fX12_93 rfl sh369 (by decide) rfl ?_
    refine wp_iload_n dX12_starts_115 rfl rfl ?_
    refine wp_bipush dX12_starts_116 (by decide) ?_
    refine wp_iadd dX12_starts_118 ?_
    refine wp_aload_n dX12_starts_119 rfl rfl ?_
    refine wp_getR (b := 375) dX12_starts_120 fX12_75 rfl sh369 (by decide) rfl ?_
    refine wp_iconst dX12_starts_123 (by decide) ?_
    refine wp_iald dX12_starts_124 sh375 (by decide) ?_
    refine wp_iast dX12_starts_125 sh381 (h.1 c1).1 ?_
    refine wp_iconst dX12_starts_126 (by decide) ?_
    refine wp_istore_n dX12_starts_127 rfl (by decide) rfl ?_
    exact (h.1 c1).2
  ·
    refine wp_aload_n dX12_starts_34 rfl rfl ?_
    refine wp_getR (b := 381) dX12_starts_35 fX12_93 rfl sh369 (by decide) rfl ?_
    refine wp_iload_n dX12_starts_38 rfl rfl ?_
    refine wp_iload_n dX12_starts_39 rfl rfl ?_
    refine wp_iadd dX12_starts_40 ?_
    refine wp_aload_n dX12_starts_41 rfl rfl ?_
    refine wp_getR (b := 375) dX12_starts_42 fX12_75 rfl sh369 (by decide) rfl ?_
    refine wp_iconst dX12_starts_45 (by decide) ?_
    refine wp_bipush dX12_starts_46 (by decide) ?_
    refine wp_iload_n dX12_starts_48 rfl rfl ?_
    refine wp_imul dX12_starts_49 ?_
    refine wp_iadd dX12_starts_50 ?_
    refine wp_iconst dX12_starts_51 (by decide) ?_
    refine wp_iadd dX12_starts_52 ?_
    refine wp_iald dX12_starts_53 sh375 (h.2 c1).1 ?_
    refine wp_iast dX12_starts_54 sh381 (h.2 c1).2.1 ?_
    refine wp_iconst dX12_starts_55 (by decide) ?_
    refine wp_istore_n dX12_starts_56 rfl (by decide) rfl ?_
    exact (h.2 c1).2.2
set_option maxHeartbeats 4000000 in
set_option maxRecDepth 10000 in
theorem sX12_starts_128 {K : KK} {d : Nat} {V : Mem} {Q : Option AV → Mem → Prop} (x1 : Int) (x2 : Int) (h : (((V 375 1) ≤ x2 → Q none V) ∧ (¬ ((V 375 1) ≤ x2) → (((0 : Int) ≤ (w32 (91 + (w32 (11 * x2)))) ∧ (w32 (91 + (w32 (11 * x2)))) < (280 : Nat)) ∧ (((0 : Int) ≤ (w32 ((w32 (x1 + 85)) + x2)) ∧ (w32 ((w32 (x1 + 85)) + x2)) < (4532 : Nat)) ∧ (((0 : Int) ≤ (w32 ((w32 (x1 + 93)) + x2)) ∧ (w32 ((w32 (x1 + 93)) + x2)) < (4532 : Nat)) ∧ Wf K (d + 1) mX12_starts 175 [some (vR 369), some (vI x1), some (vI x2), some (vI 0)] [] (upm (upm V 381 (Int.toNat (w32 ((w32 (x1 + 85)) + x2))) (V 375 (Int.toNat (w32 (91 + (w32 (11 * x2))))))) 381 (Int.toNat (w32 ((w32 (x1 + 93)) + x2))) x2) Q)))))) : Wf K (d + 1) mX12_starts 128 [some (vR 369), some (vI x1), some (vI x2), none] [] V Q := by
  refine wp_iload_n dX12_starts_128 rfl rfl ?_
  refine wp_aload_n dX12_starts_129 rfl rfl ?_
  refine wp_getR (b := 375) dX12_starts_130 fX12_75 rfl sh369 (by decide) rfl ?_
  refine wp_iconst dX12_starts_133 (by decide) ?_
  refine wp_iald dX12_starts_134 sh375 (by decide) ?_
  refine wp_icmp_ge (tgt := 225) dX12_starts_135 rfl (fun c1 => ?_) (fun c1 => ?_)
  ·
    exact wp_return dX12_starts_225 rfl ⟨rfl, rfl⟩ ⟨rfl, (h.1 c1)⟩
  ·
    refine wp_aload_n dX12_starts_138 rfl rfl ?_
    refine wp_getR (b := 381) dX12_starts_139 fX12_93 rfl sh369 (by decide) rfl ?_
    refine wp_iload_n dX12_starts_142 rfl rfl ?_
    refine wp_bipush dX12_starts_143 (by decide) ?_
    refine wp_iadd dX12_starts_145 ?_
    refine wp_iload_n dX12_starts_146 rfl rfl ?_
    refine wp_iadd dX12_starts_147 ?_
    refine wp_aload_n dX12_starts_148 rfl rfl ?_
    refine wp_getR (b := 375) dX12_starts_149 fX12_75 rfl sh369 (by decide) rfl ?_
    refine wp_bipush dX12_starts_152 (by decide) ?_
    refine wp_bipush dX12_starts_154 (by decide) ?_
    refine wp_iload_n dX12_starts_156 rfl rfl ?_
    refine wp_imul dX12_starts_157 ?_
    refine wp_iadd dX12_starts_158 ?_
    refine wp_iald dX12_starts_159 sh375 (h.2 c1).1 ?_
    refine wp_iast dX12_starts_160 sh381 (h.2 c1).2.1 ?_
    refine wp_aload_n dX12_starts_161 rfl rfl ?_
    refine wp_getR (b := 381) dX12_starts_162 fX12_93 rfl sh369 (by decide) rfl ?_
    refine wp_iload_n dX12_starts_165 rfl rfl ?_
    refine wp_bipush dX12_starts_166 (by decide) ?_
    refine wp_iadd dX12_starts_168 ?_
    refine wp_iload_n dX12_starts_169 rfl rfl ?_
    refine wp_iadd dX12_starts_170 ?_
    refine wp_iload_n dX12_starts_171 rfl rfl ?_
    refine wp_iast dX12_starts_172 sh381 (h.2 c1).2.2.1 ?_
    refine wp_iconst dX12_starts_173 (by decide) ?_
    refine wp_istore_n dX12_starts_174 rfl (by decide) rfl ?_
    exact (h.2 c1).2.2.2
set_option maxHeartbeats 4000000 in
set_option maxRecDepth 10000 in
theorem sX12_starts_57 {K : KK} {d : Nat} {V : Mem} {Q : Option AV → Mem → Prop} (x1 : Int) (x2 : Int) (x3 : Int) (h : (((0 : Int) ≤ (w32 (x1 + x2)) ∧ (w32 (x1 + x2)) < (4532 : Nat)) ∧ (((V 381 (Int.toNat (w32 (x1 + x2)))) ≤ x3 → Wf K (d + 1) mX12_starts 26 [some (vR 369), some (vI x1), some (vI (w32 (x2 + 1))), none] [] V Q) ∧ (¬ ((V 381 (Int.toNat (w32 (x1 + x2)))) ≤ x3) → (((0 : Int) ≤ (w32 ((w32 ((w32 (3 + (w32 (22 * x2)))) + 2)) + x3)) ∧ (w32 ((w32 ((w32 (3 + (w32 (22 * x2)))) + 2)) + x3)) < (280 : Nat)) ∧ (((0 : Int) ≤ (w32 ((w32 ((w32 (x1 + 4)) + (w32 (20 * x2)))) + x3)) ∧ (w32 ((w32 ((w32 (x1 + 4)) + (w32 (20 * x2)))) + x3)) < (4532 : Nat)) ∧ Wf K (d + 1) mX12_starts 57 [some (vR 369), some (vI x1), some (vI x2), some (vI (w32 (x3 + 1)))] [] (upm V 381 (Int.toNat (w32 ((w32 ((w32 (x1 + 4)) + (w32 (20 * x2)))) + x3))) (V 375 (Int.toNat (w32 ((w32 ((w32 (3 + (w32 (22 * x2)))) + 2)) + x3))))) Q)))))) : Wf K (d + 1) mX12_starts 57 [some (vR 369), some (vI x1), some (vI x2), some (vI x3)] [] V Q := by
  refine wp_iload_n dX12_starts_57 rfl rfl ?_
  refine wp_aload_n dX12_starts_58 rfl rfl ?_
  refine wp_getR (b := 381) dX12_starts_59 fX12_93 rfl sh369 (by decide) rfl ?_
  refine wp_iload_n dX12_starts_62 rfl rfl ?_
  refine wp_iload_n dX12_starts_63 rfl rfl ?_
  refine wp_iadd dX12_starts_64 ?_
  refine wp_iald dX12_starts_65 sh381 h.1 ?_
  refine wp_icmp_ge (tgt := 105) dX12_starts_66 rfl (fun c1 => ?_) (fun c1 => ?_)
  ·
    refine wp_iinc dX12_starts_105 rfl rfl ?_
    refine wp_goto (tgt := 26) dX12_starts_108 rfl ?_
    exact wp_loc (L2 := [some (vR 369), some (vI x1), some (vI (w32 (x2 + 1))), none]) ⟨rfl, ⟨rfl, ⟨rfl, trivial⟩⟩⟩ (h.2.1 c1)
  ·
    refine wp_aload_n dX12_starts_69 rfl rfl ?_
    refine wp_getR (b := 381) dX12_starts_70 fX12_93 rfl sh369 (by decide) rfl ?_
    refine wp_iload_n dX12_starts_73 rfl rfl ?_
    refine wp_iconst dX12_starts_74 (by decide) ?_
    refine wp_iadd dX12_starts_75 ?_
    refine wp_bipush dX12_starts_76 (by decide) ?_
    refine wp_iload_n dX12_starts_78 rfl rfl ?_
    refine wp_imul dX12_starts_79 ?_
    refine wp_iadd dX12_starts_80 ?_
    refine wp_iload_n dX12_starts_81 rfl rfl ?_
    refine wp_iadd dX12_starts_82 ?_
    refine wp_aload_n dX12_starts_83 rfl rfl ?_
    refine wp_getR (b := 375) dX12_starts_84 fX12_75 rfl sh369 (by decide) rfl ?_
    refine wp_iconst dX12_starts_87 (by decide) ?_
    refine wp_bipush dX12_starts_88 (by decide) ?_
    refine wp_iload_n dX12_starts_90 rfl rfl ?_
    refine wp_imul dX12_starts_91 ?_
    refine wp_iadd dX12_starts_92 ?_
    refine wp_iconst dX12_starts_93 (by decide) ?_
    refine wp_iadd dX12_starts_94 ?_
    refine wp_iload_n dX12_starts_95 rfl rfl ?_
    refine wp_iadd dX12_starts_96 ?_
    refine wp_iald dX12_starts_97 sh375 (h.2.2 c1).1 ?_
    refine wp_iast dX12_starts_98 sh381 (h.2.2 c1).2.1 ?_
    refine wp_iinc dX12_starts_99 rfl rfl ?_
    refine wp_goto (tgt := 57) dX12_starts_102 rfl ?_
    exact (h.2.2 c1).2.2
set_option maxHeartbeats 4000000 in
set_option maxRecDepth 10000 in
theorem sX12_starts_175 {K : KK} {d : Nat} {V : Mem} {Q : Option AV → Mem → Prop} (x1 : Int) (x2 : Int) (x3 : Int) (h : ((10 ≤ x3 → Wf K (d + 1) mX12_starts 128 [some (vR 369), some (vI x1), some (vI (w32 (x2 + 1))), none] [] V Q) ∧ (¬ (10 ≤ x3) → (((0 : Int) ≤ (w32 ((w32 ((w32 (91 + (w32 (11 * x2)))) + 1)) + x3)) ∧ (w32 ((w32 ((w32 (91 + (w32 (11 * x2)))) + 1)) + x3)) < (280 : Nat)) ∧ (((0 : Int) ≤ (w32 ((w32 ((w32 (x1 + 101)) + (w32 (10 * x2)))) + x3)) ∧ (w32 ((w32 ((w32 (x1 + 101)) + (w32 (10 * x2)))) + x3)) < (4532 : Nat)) ∧ Wf K (d + 1) mX12_starts 175 [some (vR 369), some (vI x1), some (vI x2), some (vI (w32 (x3 + 1)))] [] (upm V 381 (Int.toNat (w32 ((w32 ((w32 (x1 + 101)) + (w32 (10 * x2)))) + x3))) (V 375 (Int.toNat (w32 ((w32 ((w32 (91 + (w32 (11 * x2)))) + 1)) + x3))))) Q))))) : Wf K (d + 1) mX12_starts 175 [some (vR 369), some (vI x1), some (vI x2), some (vI x3)] [] V Q := by
  refine wp_iload_n dX12_starts_175 rfl rfl ?_
  refine wp_bipush dX12_starts_176 (by decide) ?_
  refine wp_icmp_ge (tgt := 219) dX12_starts_178 rfl (fun c1 => ?_) (fun c1 => ?_)
  ·
    refine wp_iinc dX12_starts_219 rfl rfl ?_
    refine wp_goto (tgt := 128) dX12_starts_222 rfl ?_
    exact wp_loc (L2 := [some (vR 369), some (vI x1), some (vI (w32 (x2 + 1))), none]) ⟨rfl, ⟨rfl, ⟨rfl, trivial⟩⟩⟩ (h.1 c1)
  ·
    refine wp_aload_n dX12_starts_181 rfl rfl ?_
    refine wp_getR (b := 381) dX12_starts_182 fX12_93 rfl sh369 (by decide) rfl ?_
    refine wp_iload_n dX12_starts_185 rfl rfl ?_
    refine wp_bipush dX12_starts_186 (by decide) ?_
    refine wp_iadd dX12_starts_188 ?_
    refine wp_bipush dX12_starts_189 (by decide) ?_
    refine wp_iload_n dX12_starts_191 rfl rfl ?_
    refine wp_imul dX12_starts_192 ?_
    refine wp_iadd dX12_starts_193 ?_
    refine wp_iload_n dX12_starts_194 rfl rfl ?_
    refine wp_iadd dX12_starts_195 ?_
    refine wp_aload_n dX12_starts_196 rfl rfl ?_
    refine wp_getR (b := 375) dX12_starts_197 fX12_75 rfl sh369 (by decide) rfl ?_
    refine wp_bipush dX12_starts_200 (by decide) ?_
    refine wp_bipush dX12_starts_202 (by decide) ?_
    refine wp_iload_n dX12_starts_204 rfl rfl ?_
    refine wp_imul dX12_starts_205 ?_
    refine wp_iadd dX12_starts_206 ?_
    refine wp_iconst dX12_starts_207 (by decide) ?_
    refine wp_iadd dX12_starts_208 ?_
    refine wp_iload_n dX12_starts_209 rfl rfl ?_
    refine wp_iadd dX12_starts_210 ?_
    refine wp_iald dX12_starts_211 sh375 (h.2 c1).1 ?_
    refine wp_iast dX12_starts_212 sh381 (h.2 c1).2.1 ?_
    refine wp_iinc dX12_starts_213 rfl rfl ?_
    refine wp_goto (tgt := 175) dX12_starts_216 rfl ?_
    exact (h.2 c1).2.2
set_option maxHeartbeats 4000000 in
set_option maxRecDepth 10000 in
theorem sX12_begins {K : KK} {d : Nat} {V : Mem} {Q : Option AV → Mem → Prop}  (h : Mf K d mX12_starts [vR 369, vI 0] V (fun r V1 => r = none ∧ Wf K (d + 1) mX12_begins 38 [some (vR 369), some (vI 0)] [] (upm (upm (upm (upm V1 381 181 0) 369 19 ((upm V1 381 181 0) 375 1)) 378 0 0) 369 18 0) Q)) : Mf K (d + 1) mX12_begins [vR 369] V Q := by
  refine Mt.of2 (L := [some (vR 369), none]) pnX12 rfl rfl ?_
  refine wp_aload_n dX12_begins_0 rfl rfl ?_
  refine wp_iconst dX12_begins_1 (by decide) ?_
  refine wp_callV (S := []) (as := [vI 0]) dX12_begins_2 lX12_276 (h) (by omega) sh369 rfl rfl (Nat.le_of_ble_eq_true rfl) ⟨Nat.le_refl _, Nat.le_refl _⟩ ?_
  rintro _ _ V1 ⟨rfl, rfl, q1⟩
  show Wp _ _ _ _ _ 5 _ [] _ _ _ _ _
  refine wp_aload_n dX12_begins_5 rfl rfl ?_
  refine wp_getR (b := 381) dX12_begins_6 fX12_93 rfl sh369 (by decide) rfl ?_
  refine wp_sipush dX12_begins_9 (by decide) ?_
  refine wp_iconst dX12_begins_12 (by decide) ?_
  refine wp_iast dX12_begins_13 sh381 (by decide) ?_
  refine wp_aload_n dX12_begins_14 rfl rfl ?_
  refine wp_aload_n dX12_begins_15 rfl rfl ?_
  refine wp_getR (b := 375) dX12_begins_16 fX12_75 rfl sh369 (by decide) rfl ?_
  refine wp_iconst dX12_begins_19 (by decide) ?_
  refine wp_iald dX12_begins_20 sh375 (by decide) ?_
  refine wp_putI dX12_begins_21 fwX12_279 rfl sh369 (by decide) ?_
  refine wp_aload_n dX12_begins_24 rfl rfl ?_
  refine wp_getR (b := 378) dX12_begins_25 fX12_84 rfl sh369 (by decide) rfl ?_
  refine wp_iconst dX12_begins_28 (by decide) ?_
  refine wp_iconst dX12_begins_29 (by decide) ?_
  refine wp_iast dX12_begins_30 sh378 (by decide) ?_
  refine wp_aload_n dX12_begins_31 rfl rfl ?_
  refine wp_iconst dX12_begins_32 (by decide) ?_
  refine wp_putI dX12_begins_33 fwX12_282 rfl sh369 (by decide) ?_
  refine wp_iconst dX12_begins_36 (by decide) ?_
  refine wp_istore_n dX12_begins_37 rfl (by decide) rfl ?_
  exact q1
set_option maxHeartbeats 4000000 in
set_option maxRecDepth 10000 in
theorem sX12_begins_38 {K : KK} {d : Nat} {V : Mem} {Q : Option AV → Mem → Prop} (x1 : Int) (h : ((4 ≤ x1 → Q none V) ∧ (¬ (4 ≤ x1) → (((0 : Int) ≤ x1 ∧ x1 < (4 : Nat)) ∧ ((0 : Int) = 0 ∨ (0 : Int) = 1) ∧ Wf K (d + 1) mX12_begins 38 [some (vR 369), some (vI (w32 (x1 + 1)))] [] (upm V 382 (Int.toNat x1) 0) Q)))) : Wf K (d + 1) mX12_begins 38 [some (vR 369), some (vI x1)] [] V Q := by
  refine wp_iload_n dX12_begins_38 rfl rfl ?_
  refine wp_iconst dX12_begins_39 (by decide) ?_
  refine wp_icmp_ge (tgt := 56) dX12_begins_40 rfl (fun c1 => ?_) (fun c1 => ?_)
  ·
    exact wp_return dX12_begins_56 rfl ⟨rfl, rfl⟩ ⟨rfl, (h.1 c1)⟩
  ·
    refine wp_aload_n dX12_begins_43 rfl rfl ?_
    refine wp_getR (b := 382) dX12_begins_44 fX12_96 rfl sh369 (by decide) rfl ?_
    refine wp_iload_n dX12_begins_47 rfl rfl ?_
    refine wp_iconst dX12_begins_48 (by decide) ?_
    refine wp_zast dX12_begins_49 sh382 (h.2 c1).1 (h.2 c1).2.1 ?_
    refine wp_iinc dX12_begins_50 rfl rfl ?_
    refine wp_goto (tgt := 38) dX12_begins_53 rfl ?_
    exact (h.2 c1).2.2
set_option maxHeartbeats 4000000 in
set_option maxRecDepth 10000 in
theorem sX12_keeps {K : KK} {d : Nat} {V : Mem} {Q : Option AV → Mem → Prop}  (h : ((¬ (V 369 18) = 16 → Mf K d mX12_moves [vR 369, vI 0, vI (w32 (206 * (w32 (5 + (V 369 18))))), vI 181] V (fun r V2 => r = none ∧ Q none (upm V2 369 18 (w32 ((V2 369 18) + 1))))) ∧ ((V 369 18) = 16 → Wf K (d + 1) mX12_keeps 11 [some (vR 369), some (vI 1)] [] V Q))) : Mf K (d + 1) mX12_keeps [vR 369] V Q := by
  refine Mt.of2 (L := [some (vR 369), none]) pnX12 rfl rfl ?_
  refine wp_aload_n dX12_keeps_0 rfl rfl ?_
  refine wp_getI dX12_keeps_1 fX12_282 rfl sh369 (by decide) ?_
  refine wp_bipush dX12_keeps_4 (by decide) ?_
  refine wp_icmp_ne (tgt := 56) dX12_keeps_6 rfl (fun c1 => ?_) (fun c1 => ?_)
  ·
    refine wp_aload_n dX12_keeps_56 rfl rfl ?_
    refine wp_iconst dX12_keeps_57 (by decide) ?_
    refine wp_sipush dX12_keeps_58 (by decide) ?_
    refine wp_iconst dX12_keeps_61 (by decide) ?_
    refine wp_aload_n dX12_keeps_62 rfl rfl ?_
    refine wp_getI dX12_keeps_63 fX12_282 rfl sh369 (by decide) ?_
    refine wp_iadd dX12_keeps_66 ?_
    refine wp_imul dX12_keeps_67 ?_
    refine wp_sipush dX12_keeps_68 (by decide) ?_
    refine wp_callV (S := []) (as := [vI 0, vI (w32 (206 * (w32 (5 + (V 369 18))))), vI 181]) dX12_keeps_71 lX12_285 ((h.1 c1)) (by omega) sh369 rfl rfl (Nat.le_of_ble_eq_true rfl) ⟨Nat.le_refl _, Nat.le_refl _⟩ ?_
    rintro _ _ V2 ⟨rfl, rfl, q2⟩
    show Wp _ _ _ _ _ 74 _ [] _ _ _ _ _
    refine wp_aload_n dX12_keeps_74 rfl rfl ?_
    refine wp_dup dX12_keeps_75 rfl ?_
    refine wp_getI dX12_keeps_76 fX12_282 rfl sh369 (by decide) ?_
    refine wp_iconst dX12_keeps_79 (by decide) ?_
    refine wp_iadd dX12_keeps_80 ?_
    refine wp_putI dX12_keeps_81 fwX12_282 rfl sh369 (by decide) ?_
    exact wp_return dX12_keeps_84 rfl ⟨rfl, rfl⟩ ⟨rfl, q2⟩
  ·
    refine wp_iconst dX12_keeps_9 (by decide) ?_
    refine wp_istore_n dX12_keeps_10 rfl (by decide) rfl ?_
    exact (h.2 c1)
set_option maxHeartbeats 4000000 in
set_option maxRecDepth 10000 in
theorem sX12_keeps_11 {K : KK} {d : Nat} {V : Mem} {Q : Option AV → Mem → Prop} (x1 : Int) (h : ((16 ≤ x1 → Mf K d mX12_moves [vR 369, vI 0, vI (w32 (206 * (w32 (5 + ((upm V 369 18 (w32 ((V 369 18) - 1))) 369 18))))), vI 181] (upm V 369 18 (w32 ((V 369 18) - 1))) (fun r V2 => r = none ∧ Q none (upm V2 369 18 (w32 ((V2 369 18) + 1))))) ∧ (¬ (16 ≤ x1) → Mf K d mX12_moves [vR 369, vI (w32 (206 * (w32 (5 + x1)))), vI (w32 (206 * (w32 ((w32 (5 + x1)) - 1)))), vI 181] V (fun r V3 => r = none ∧ Wf K (d + 1) mX12_keeps 11 [some (vR 369), some (vI (w32 (x1 + 1)))] [] V3 Q)))) : Wf K (d + 1) mX12_keeps 11 [some (vR 369), some (vI x1)] [] V Q := by
  refine wp_iload_n dX12_keeps_11 rfl rfl ?_
  refine wp_bipush dX12_keeps_12 (by decide) ?_
  refine wp_icmp_ge (tgt := 46) dX12_keeps_14 rfl (fun c1 => ?_) (fun c1 => ?_)
  ·
    refine wp_aload_n dX12_keeps_46 rfl rfl ?_
    refine wp_dup dX12_keeps_47 rfl ?_
    refine wp_getI dX12_keeps_48 fX12_282 rfl sh369 (by decide) ?_
    refine wp_iconst dX12_keeps_51 (by decide) ?_
    refine wp_isub dX12_keeps_52 ?_
    refine wp_putI dX12_keeps_53 fwX12_282 rfl sh369 (by decide) ?_
    refine wp_aload_n dX12_keeps_56 rfl rfl ?_
    refine wp_iconst dX12_keeps_57 (by decide) ?_
    refine wp_sipush dX12_keeps_58 (by decide) ?_
    refine wp_iconst dX12_keeps_61 (by decide) ?_
    refine wp_aload_n dX12_keeps_62 rfl rfl ?_
    refine wp_getI dX12_keeps_63 fX12_282 rfl sh369 (by decide) ?_
    refine wp_iadd dX12_keeps_66 ?_
    refine wp_imul dX12_keeps_67 ?_
    refine wp_sipush dX12_keeps_68 (by decide) ?_
    refine wp_callV (S := []) (as := [vI 0, vI (w32 (206 * (w32 (5 + ((upm V 369 18 (w32 ((V 369 18) - 1))) 369 18))))), vI 181]) dX12_keeps_71 lX12_285 ((h.1 c1)) (by omega) sh369 rfl rfl (Nat.le_of_ble_eq_true rfl) ⟨Nat.le_refl _, Nat.le_refl _⟩ ?_
    rintro _ _ V2 ⟨rfl, rfl, q2⟩
    show Wp _ _ _ _ _ 74 _ [] _ _ _ _ _
    refine wp_aload_n dX12_keeps_74 rfl rfl ?_
    refine wp_dup dX12_keeps_75 rfl ?_
    refine wp_getI dX12_keeps_76 fX12_282 rfl sh369 (by decide) ?_
    refine wp_iconst dX12_keeps_79 (by decide) ?_
    refine wp_iadd dX12_keeps_80 ?_
    refine wp_putI dX12_keeps_81 fwX12_282 rfl sh369 (by decide) ?_
    exact wp_return dX12_keeps_84 rfl ⟨rfl, rfl⟩ ⟨rfl, q2⟩
  ·
    refine wp_aload_n dX12_keeps_17 rfl rfl ?_
    refine wp_sipush dX12_keeps_18 (by decide) ?_
    refine wp_iconst dX12_keeps_21 (by decide) ?_
    refine wp_iload_n dX12_keeps_22 rfl rfl ?_
    refine wp_iadd dX12_keeps_23 ?_
    refine wp_imul dX12_keeps_24 ?_
    refine wp_sipush dX12_keeps_25 (by decide) ?_
    refine wp_iconst dX12_keeps_28 (by decide) ?_
    refine wp_iload_n dX12_keeps_29 rfl rfl ?_
    refine wp_iadd dX12_keeps_30 ?_
    refine wp_iconst dX12_keeps_31 (by decide) ?_
    refine wp_isub dX12_keeps_32 ?_
    refine wp_imul dX12_keeps_33 ?_
    refine wp_sipush dX12_keeps_34 (by decide) ?_
    refine wp_callV (S := []) (as := [vI (w32 (206 * (w32 (5 + x1)))), vI (w32 (206 * (w32 ((w32 (5 + x1)) - 1)))), vI 181]) dX12_keeps_37 lX12_285 ((h.2 c1)) (by omega) sh369 rfl rfl (Nat.le_of_ble_eq_true rfl) ⟨Nat.le_refl _, Nat.le_refl _⟩ ?_
    rintro _ _ V3 ⟨rfl, rfl, q3⟩
    show Wp _ _ _ _ _ 40 _ [] _ _ _ _ _
    refine wp_iinc dX12_keeps_40 rfl rfl ?_
    refine wp_goto (tgt := 11) dX12_keeps_43 rfl ?_
    exact q3
set_option maxHeartbeats 4000000 in
set_option maxRecDepth 10000 in
theorem sX12_rows {K : KK} {d : Nat} {V : Mem} {Q : Option AV → Mem → Prop}  (h : Q (some (vI (V 375 0))) V) : Mf K d mX12_rows [vR 369] V Q := by
  refine Mt.of2 (L := [some (vR 369)]) pnX12 rfl rfl ?_
  refine wp_aload_n dX12_rows_0 rfl rfl ?_
  refine wp_getR (b := 375) dX12_rows_1 fX12_75 rfl sh369 (by decide) rfl ?_
  refine wp_iconst dX12_rows_4 (by decide) ?_
  refine wp_iald dX12_rows_5 sh375 (by decide) ?_
  exact wp_ireturn dX12_rows_6 rfl ⟨rfl, rfl⟩ ⟨rfl, h⟩
set_option maxHeartbeats 4000000 in
set_option maxRecDepth 10000 in
theorem sX12_kindOf {K : KK} {d : Nat} {V : Mem} {Q : Option AV → Mem → Prop} (x1 : Int) (h : (((0 : Int) ≤ (w32 (3 + (w32 (22 * x1)))) ∧ (w32 (3 + (w32 (22 * x1)))) < (280 : Nat)) ∧ Q (some (vI (V 375 (Int.toNat (w32 (3 + (w32 (22 * x1)))))))) V)) : Mf K d mX12_kindOf [vR 369, vI x1] V Q := by
  refine Mt.of2 (L := [some (vR 369), some (vI x1)]) pnX12 rfl rfl ?_
  refine wp_aload_n dX12_kindOf_0 rfl rfl ?_
  refine wp_getR (b := 375) dX12_kindOf_1 fX12_75 rfl sh369 (by decide) rfl ?_
  refine wp_iconst dX12_kindOf_4 (by decide) ?_
  refine wp_bipush dX12_kindOf_5 (by decide) ?_
  refine wp_iload_n dX12_kindOf_7 rfl rfl ?_
  refine wp_imul dX12_kindOf_8 ?_
  refine wp_iadd dX12_kindOf_9 ?_
  refine wp_iald dX12_kindOf_10 sh375 h.1 ?_
  exact wp_ireturn dX12_kindOf_11 rfl ⟨rfl, rfl⟩ ⟨rfl, h.2⟩
set_option maxHeartbeats 4000000 in
set_option maxRecDepth 10000 in
theorem sX12_manyOf {K : KK} {d : Nat} {V : Mem} {Q : Option AV → Mem → Prop} (x1 : Int) (x2 : Int) (h : (((0 : Int) ≤ (w32 (x1 + x2)) ∧ (w32 (x1 + x2)) < (4532 : Nat)) ∧ Q (some (vI (V 381 (Int.toNat (w32 (x1 + x2)))))) V)) : Mf K d mX12_manyOf [vR 369, vI x1, vI x2] V Q := by
  refine Mt.of2 (L := [some (vR 369), some (vI x1), some (vI x2)]) pnX12 rfl rfl ?_
  refine wp_aload_n dX12_manyOf_0 rfl rfl ?_
  refine wp_getR (b := 381) dX12_manyOf_1 fX12_93 rfl sh369 (by decide) rfl ?_
  refine wp_iload_n dX12_manyOf_4 rfl rfl ?_
  refine wp_iload_n dX12_manyOf_5 rfl rfl ?_
  refine wp_iadd dX12_manyOf_6 ?_
  refine wp_iald dX12_manyOf_7 sh381 h.1 ?_
  exact wp_ireturn dX12_manyOf_8 rfl ⟨rfl, rfl⟩ ⟨rfl, h.2⟩
set_option maxHeartbeats 4000000 in
set_option maxRecDepth 10000 in
theorem sX12_numberAt {K : KK} {d : Nat} {V : Mem} {Q : Option AV → Mem → Prop} (x0 : Int) (x1 : Int) (x2 : Int) (h : Q (some (vI (w32 ((w32 ((w32 (x0 + 4)) + (w32 (20 * x1)))) + x2)))) V) : Mf K d mX12_numberAt [vI x0, vI x1, vI x2] V Q := by
  refine Mt.of2 (L := [some (vI x0), some (vI x1), some (vI x2)]) pnX12 rfl rfl ?_
  refine wp_iload_n dX12_numberAt_0 rfl rfl ?_
  refine wp_iconst dX12_numberAt_1 (by decide) ?_
  refine wp_iadd dX12_numberAt_2 ?_
  refine wp_bipush dX12_numberAt_3 (by decide) ?_
  refine wp_iload_n dX12_numberAt_5 rfl rfl ?_
  refine wp_imul dX12_numberAt_6 ?_
  refine wp_iadd dX12_numberAt_7 ?_
  refine wp_iload_n dX12_numberAt_8 rfl rfl ?_
  refine wp_iadd dX12_numberAt_9 ?_
  exact wp_ireturn dX12_numberAt_10 rfl ⟨rfl, rfl⟩ ⟨rfl, h⟩
set_option maxHeartbeats 4000000 in
set_option maxRecDepth 10000 in
theorem sX12_isRow {K : KK} {d : Nat} {V : Mem} {Q : Option AV → Mem → Prop} (x1 : Int) (h : ((x1 < 0 → Q (some (vI 0)) V) ∧ (¬ (x1 < 0) → (((V 375 0) ≤ x1 → Q (some (vI 0)) V) ∧ (¬ ((V 375 0) ≤ x1) → Q (some (vI 1)) V))))) : Mf K (d + 1) mX12_isRow [vR 369, vI x1] V Q := by
  refine Mt.of2 (L := [some (vR 369), some (vI x1)]) pnX12 rfl rfl ?_
  refine wp_iload_n dX12_isRow_0 rfl rfl ?_
  refine wp_if_lt (tgt := 16) dX12_isRow_1 rfl (fun c1 => ?_) (fun c1 => ?_)
  ·
    refine wp_iconst dX12_isRow_16 (by decide) ?_
    exact wp_zreturn dX12_isRow_17 rfl ⟨rfl, rfl⟩ (by decide) ⟨rfl, (h.1 c1)⟩
  ·
    refine wp_iload_n dX12_isRow_4 rfl rfl ?_
    refine wp_aload_n dX12_isRow_5 rfl rfl ?_
    refine wp_inlV (d' := d) (S := [vI x1]) (as := []) dX12_isRow_6 lX12_272 (by omega) sh369 rfl rfl (Nat.le_of_ble_eq_true rfl) ⟨Nat.le_refl _, Nat.le_refl _⟩ (Mt.of2 (L := [some (vR 369)]) pnX12 rfl rfl ?_)
    refine wp_aload_n dX12_rows_0 rfl rfl ?_
    refine wp_getR (b := 375) dX12_rows_1 fX12_75 rfl sh369 (by decide) rfl ?_
    refine wp_iconst dX12_rows_4 (by decide) ?_
    refine wp_iald dX12_rows_5 sh375 (by decide) ?_
    refine wp_ireturn dX12_rows_6 rfl ⟨rfl, rfl⟩ ?_
    show Wp _ _ _ _ _ 9 _ [vI (V 375 0), vI x1] _ _ _ _ _
    refine wp_icmp_ge (tgt := 16) dX12_isRow_9 rfl (fun c2 => ?_) (fun c2 => ?_)
    ·
      refine wp_iconst dX12_isRow_16 (by decide) ?_
      exact wp_zreturn dX12_isRow_17 rfl ⟨rfl, rfl⟩ (by decide) ⟨rfl, ((h.2 c1).1 c2)⟩
    ·
      refine wp_iconst dX12_isRow_12 (by decide) ?_
      refine wp_goto (tgt := 17) dX12_isRow_13 rfl ?_
      exact wp_zreturn dX12_isRow_17 rfl ⟨rfl, rfl⟩ (by decide) ⟨rfl, ((h.2 c1).2 c2)⟩
set_option maxHeartbeats 4000000 in
set_option maxRecDepth 10000 in
theorem sX12_isPlace {K : KK} {d : Nat} {V : Mem} {Q : Option AV → Mem → Prop} (x1 : Int) (x2 : Int) (h : Mf K d mX12_isRow [vR 369, vI x1] V (fun r V1 => ∃ z1, r = some (vI z1) ∧ ((z1 = 0 → Q (some (vI 0)) V1) ∧ (¬ (z1 = 0) → ((x2 < 0 → Q (some (vI 0)) V1) ∧ (¬ (x2 < 0) → (((0 : Int) ≤ (w32 (0 + x1)) ∧ (w32 (0 + x1)) < (4532 : Nat)) ∧ (((V1 381 (Int.toNat (w32 (0 + x1)))) ≤ x2 → Q (some (vI 0)) V1) ∧ (¬ ((V1 381 (Int.toNat (w32 (0 + x1)))) ≤ x2) → Q (some (vI 1)) V1))))))))) : Mf K (d + 1) mX12_isPlace [vR 369, vI x1, vI x2] V Q := by
  refine Mt.of2 (L := [some (vR 369), some (vI x1), some (vI x2)]) pnX12 rfl rfl ?_
  refine wp_aload_n dX12_isPlace_0 rfl rfl ?_
  refine wp_iload_n dX12_isPlace_1 rfl rfl ?_
  refine wp_callV (S := []) (as := [vI x1]) dX12_isPlace_2 lX12_289 (h) (by omega) sh369 rfl rfl (Nat.le_of_ble_eq_true rfl) ⟨Nat.le_refl _, Nat.le_refl _⟩ ?_
  rintro _ _ V1 ⟨rfl, z1, rfl, q1⟩
  show Wp _ _ _ _ _ 5 _ [vI z1] _ _ _ _ _
  refine wp_if_eq (tgt := 26) dX12_isPlace_5 rfl (fun c2 => ?_) (fun c2 => ?_)
  ·
    refine wp_iconst dX12_isPlace_26 (by decide) ?_
    exact wp_zreturn dX12_isPlace_27 rfl ⟨rfl, rfl⟩ (by decide) ⟨rfl, (q1.1 c2)⟩
  ·
    refine wp_iload_n dX12_isPlace_8 rfl rfl ?_
    refine wp_if_lt (tgt := 26) dX12_isPlace_9 rfl (fun c3 => ?_) (fun c3 => ?_)
    ·
      refine wp_iconst dX12_isPlace_26 (by decide) ?_
      exact wp_zreturn dX12_isPlace_27 rfl ⟨rfl, rfl⟩ (by decide) ⟨rfl, ((q1.2 c2).1 c3)⟩
    ·
      refine wp_iload_n dX12_isPlace_12 rfl rfl ?_
      refine wp_aload_n dX12_isPlace_13 rfl rfl ?_
      refine wp_iconst dX12_isPlace_14 (by decide) ?_
      refine wp_iload_n dX12_isPlace_15 rfl rfl ?_
      refine wp_inlV (d' := d) (S := [vI x2]) (as := [vI 0, vI x1]) dX12_isPlace_16 lX12_292 (by omega) sh369 rfl rfl (Nat.le_of_ble_eq_true rfl) ⟨Nat.le_refl _, Nat.le_refl _⟩ (Mt.of2 (L := [some (vR 369), some (vI 0), some (vI x1)]) pnX12 rfl rfl ?_)
      refine wp_aload_n dX12_manyOf_0 rfl rfl ?_
      refine wp_getR (b := 381) dX12_manyOf_1 fX12_93 rfl sh369 (by decide) rfl ?_
      refine wp_iload_n dX12_manyOf_4 rfl rfl ?_
      refine wp_iload_n dX12_manyOf_5 rfl rfl ?_
      refine wp_iadd dX12_manyOf_6 ?_
      refine wp_iald dX12_manyOf_7 sh381 ((q1.2 c2).2 c3).1 ?_
      refine wp_ireturn dX12_manyOf_8 rfl ⟨rfl, rfl⟩ ?_
      show Wp _ _ _ _ _ 19 _ [vI (V1 381 (Int.toNat (w32 (0 + x1)))), vI x2] _ _ _ _ _
      refine wp_icmp_ge (tgt := 26) dX12_isPlace_19 rfl (fun c4 => ?_) (fun c4 => ?_)
      ·
        refine wp_iconst dX12_isPlace_26 (by decide) ?_
        exact wp_zreturn dX12_isPlace_27 rfl ⟨rfl, rfl⟩ (by decide) ⟨rfl, (((q1.2 c2).2 c3).2.1 c4)⟩
      ·
        refine wp_iconst dX12_isPlace_22 (by decide) ?_
        refine wp_goto (tgt := 27) dX12_isPlace_23 rfl ?_
        exact wp_zreturn dX12_isPlace_27 rfl ⟨rfl, rfl⟩ (by decide) ⟨rfl, (((q1.2 c2).2 c3).2.2 c4)⟩
set_option maxHeartbeats 4000000 in
set_option maxRecDepth 10000 in
theorem sX12_isWindow {K : KK} {d : Nat} {V : Mem} {Q : Option AV → Mem → Prop} (x1 : Int) (x2 : Int) (x3 : Int) (h : Mf K d mX12_isRow [vR 369, vI x1] V (fun r V1 => ∃ z1, r = some (vI z1) ∧ ((z1 = 0 → Q (some (vI 0)) V1) ∧ (¬ (z1 = 0) → ((x2 < 0 → Q (some (vI 0)) V1) ∧ (¬ (x2 < 0) → ((x3 < x2 → Q (some (vI 0)) V1) ∧ (¬ (x3 < x2) → (((0 : Int) ≤ (w32 (0 + x1)) ∧ (w32 (0 + x1)) < (4532 : Nat)) ∧ (((V1 381 (Int.toNat (w32 (0 + x1)))) < x3 → Q (some (vI 0)) V1) ∧ (¬ ((V1 381 (Int.toNat (w32 (0 + x1)))) < x3) → Q (some (vI 1)) V1))))))))))) : Mf K (d + 1) mX12_isWindow [vR 369, vI x1, vI x2, vI x3] V Q := by
  refine Mt.of2 (L := [some (vR 369), some (vI x1), some (vI x2), some (vI x3)]) pnX12 rfl rfl ?_
  refine wp_aload_n dX12_isWindow_0 rfl rfl ?_
  refine wp_iload_n dX12_isWindow_1 rfl rfl ?_
  refine wp_callV (S := []) (as := [vI x1]) dX12_isWindow_2 lX12_289 (h) (by omega) sh369 rfl rfl (Nat.le_of_ble_eq_true rfl) ⟨Nat.le_refl _, Nat.le_refl _⟩ ?_
  rintro _ _ V1 ⟨rfl, z1, rfl, q1⟩
  show Wp _ _ _ _ _ 5 _ [vI z1] _ _ _ _ _
  refine wp_if_eq (tgt := 31) dX12_isWindow_5 rfl (fun c2 => ?_) (fun c2 => ?_)
  ·
    refine wp_iconst dX12_isWindow_31 (by decide) ?_
    exact wp_zreturn dX12_isWindow_32 rfl ⟨rfl, rfl⟩ (by decide) ⟨rfl, (q1.1 c2)⟩
  ·
    refine wp_iload_n dX12_isWindow_8 rfl rfl ?_
    refine wp_if_lt (tgt := 31) dX12_isWindow_9 rfl (fun c3 => ?_) (fun c3 => ?_)
    ·
      refine wp_iconst dX12_isWindow_31 (by decide) ?_
      exact wp_zreturn dX12_isWindow_32 rfl ⟨rfl, rfl⟩ (by decide) ⟨rfl, ((q1.2 c2).1 c3)⟩
    ·
      refine wp_iload_n dX12_isWindow_12 rfl rfl ?_
      refine wp_iload_n dX12_isWindow_13 rfl rfl ?_
      refine wp_icmp_gt (tgt := 31) dX12_isWindow_14 rfl (fun c4 => ?_) (fun c4 => ?_)
      ·
        refine wp_iconst dX12_isWindow_31 (by decide) ?_
        exact wp_zreturn dX12_isWindow_32 rfl ⟨rfl, rfl⟩ (by decide) ⟨rfl, (((q1.2 c2).2 c3).1 c4)⟩
      ·
        refine wp_iload_n dX12_isWindow_17 rfl rfl ?_
        refine wp_aload_n dX12_isWindow_18 rfl rfl ?_
        refine wp_iconst dX12_isWindow_19 (by decide) ?_
        refine wp_iload_n dX12_isWindow_20 rfl rfl ?_
        refine wp_inlV (d' := d) (S := [vI x3]) (as := [vI 0, vI x1]) dX12_isWindow_21 lX12_292 (by omega) sh369 rfl rfl (Nat.le_of_ble_eq_true rfl) ⟨Nat.le_refl _, Nat.le_refl _⟩ (Mt.of2 (L := [some (vR 369), some (vI 0), some (vI x1)]) pnX12 rfl rfl ?_)
        refine wp_aload_n dX12_manyOf_0 rfl rfl ?_
        refine wp_getR (b := 381) dX12_manyOf_1 fX12_93 rfl sh369 (by decide) rfl ?_
        refine wp_iload_n dX12_manyOf_4 rfl rfl ?_
        refine wp_iload_n dX12_manyOf_5 rfl rfl ?_
        refine wp_iadd dX12_manyOf_6 ?_
        refine wp_iald dX12_manyOf_7 sh381 (((q1.2 c2).2 c3).2 c4).1 ?_
        refine wp_ireturn dX12_manyOf_8 rfl ⟨rfl, rfl⟩ ?_
        show Wp _ _ _ _ _ 24 _ [vI (V1 381 (Int.toNat (w32 (0 + x1)))), vI x3] _ _ _ _ _
        refine wp_icmp_gt (tgt := 31) dX12_isWindow_24 rfl (fun c5 => ?_) (fun c5 => ?_)
        ·
          refine wp_iconst dX12_isWindow_31 (by decide) ?_
          exact wp_zreturn dX12_isWindow_32 rfl ⟨rfl, rfl⟩ (by decide) ⟨rfl, ((((q1.2 c2).2 c3).2 c4).2.1 c5)⟩
        ·
          refine wp_iconst dX12_isWindow_27 (by decide) ?_
          refine wp_goto (tgt := 32) dX12_isWindow_28 rfl ?_
          exact wp_zreturn dX12_isWindow_32 rfl ⟨rfl, rfl⟩ (by decide) ⟨rfl, ((((q1.2 c2).2 c3).2 c4).2.2 c5)⟩
set_option maxHeartbeats 4000000 in
set_option maxRecDepth 10000 in
theorem sX12_isBraid {K : KK} {d : Nat} {V : Mem} {Q : Option AV → Mem → Prop} (x1 : Int) (h : ((x1 < 0 → Q (some (vI 0)) V) ∧ (¬ (x1 < 0) → (((V 381 84) ≤ x1 → Q (some (vI 0)) V) ∧ (¬ ((V 381 84) ≤ x1) → Q (some (vI 1)) V))))) : Mf K d mX12_isBraid [vR 369, vI x1] V Q := by
  refine Mt.of2 (L := [some (vR 369), some (vI x1)]) pnX12 rfl rfl ?_
  refine wp_iload_n dX12_isBraid_0 rfl rfl ?_
  refine wp_if_lt (tgt := 19) dX12_isBraid_1 rfl (fun c1 => ?_) (fun c1 => ?_)
  ·
    refine wp_iconst dX12_isBraid_19 (by decide) ?_
    exact wp_zreturn dX12_isBraid_20 rfl ⟨rfl, rfl⟩ (by decide) ⟨rfl, (h.1 c1)⟩
  ·
    refine wp_iload_n dX12_isBraid_4 rfl rfl ?_
    refine wp_aload_n dX12_isBraid_5 rfl rfl ?_
    refine wp_getR (b := 381) dX12_isBraid_6 fX12_93 rfl sh369 (by decide) rfl ?_
    refine wp_bipush dX12_isBraid_9 (by decide) ?_
    refine wp_iald dX12_isBraid_11 sh381 (by decide) ?_
    refine wp_icmp_ge (tgt := 19) dX12_isBraid_12 rfl (fun c2 => ?_) (fun c2 => ?_)
    ·
      refine wp_iconst dX12_isBraid_19 (by decide) ?_
      exact wp_zreturn dX12_isBraid_20 rfl ⟨rfl, rfl⟩ (by decide) ⟨rfl, ((h.2 c1).1 c2)⟩
    ·
      refine wp_iconst dX12_isBraid_15 (by decide) ?_
      refine wp_goto (tgt := 20) dX12_isBraid_16 rfl ?_
      exact wp_zreturn dX12_isBraid_20 rfl ⟨rfl, rfl⟩ (by decide) ⟨rfl, ((h.2 c1).2 c2)⟩
set_option maxHeartbeats 4000000 in
set_option maxRecDepth 10000 in
theorem sX12_strandsOf {K : KK} {d : Nat} {V : Mem} {Q : Option AV → Mem → Prop} (x1 : Int) (h : (((0 : Int) ≤ (w32 (85 + x1)) ∧ (w32 (85 + x1)) < (4532 : Nat)) ∧ Q (some (vI (V 381 (Int.toNat (w32 (85 + x1)))))) V)) : Mf K d mX12_strandsOf [vR 369, vI x1] V Q := by
  refine Mt.of2 (L := [some (vR 369), some (vI x1)]) pnX12 rfl rfl ?_
  refine wp_aload_n dX12_strandsOf_0 rfl rfl ?_
  refine wp_getR (b := 381) dX12_strandsOf_1 fX12_93 rfl sh369 (by decide) rfl ?_
  refine wp_bipush dX12_strandsOf_4 (by decide) ?_
  refine wp_iload_n dX12_strandsOf_6 rfl rfl ?_
  refine wp_iadd dX12_strandsOf_7 ?_
  refine wp_iald dX12_strandsOf_8 sh381 h.1 ?_
  exact wp_ireturn dX12_strandsOf_9 rfl ⟨rfl, rfl⟩ ⟨rfl, h.2⟩
set_option maxHeartbeats 4000000 in
set_option maxRecDepth 10000 in
theorem sX12_endOf {K : KK} {d : Nat} {V : Mem} {Q : Option AV → Mem → Prop} (x1 : Int) (x2 : Int) (h : (((0 : Int) ≤ (w32 ((w32 (101 + (w32 (10 * x1)))) + x2)) ∧ (w32 ((w32 (101 + (w32 (10 * x1)))) + x2)) < (4532 : Nat)) ∧ Q (some (vI (V 381 (Int.toNat (w32 ((w32 (101 + (w32 (10 * x1)))) + x2)))))) V)) : Mf K d mX12_endOf [vR 369, vI x1, vI x2] V Q := by
  refine Mt.of2 (L := [some (vR 369), some (vI x1), some (vI x2)]) pnX12 rfl rfl ?_
  refine wp_aload_n dX12_endOf_0 rfl rfl ?_
  refine wp_getR (b := 381) dX12_endOf_1 fX12_93 rfl sh369 (by decide) rfl ?_
  refine wp_bipush dX12_endOf_4 (by decide) ?_
  refine wp_bipush dX12_endOf_6 (by decide) ?_
  refine wp_iload_n dX12_endOf_8 rfl rfl ?_
  refine wp_imul dX12_endOf_9 ?_
  refine wp_iadd dX12_endOf_10 ?_
  refine wp_iload_n dX12_endOf_11 rfl rfl ?_
  refine wp_iadd dX12_endOf_12 ?_
  refine wp_iald dX12_endOf_13 sh381 h.1 ?_
  exact wp_ireturn dX12_endOf_14 rfl ⟨rfl, rfl⟩ ⟨rfl, h.2⟩
set_option maxHeartbeats 4000000 in
set_option maxRecDepth 10000 in
theorem sX12_weighs {K : KK} {d : Nat} {V : Mem} {Q : Option AV → Mem → Prop} (x1 : Int) (x2 : Int) (x3 : Int) (x4 : Int) (h : ((0 ≤ ((upm (upm (upm (upm V 379 0 x1) 379 1 x2) 379 2 x3) 379 3 x4) 375 2) → Mf K d mX12_worthAt [vR 369, vI ((upm (upm (upm (upm V 379 0 x1) 379 1 x2) 379 2 x3) 379 3 x4) 375 2)] (upm (upm (upm (upm V 379 0 x1) 379 1 x2) 379 2 x3) 379 3 x4) (fun r V2 => ∃ z2, r = some (vI z2) ∧ Q (some (vI z2)) V2)) ∧ (¬ (0 ≤ ((upm (upm (upm (upm V 379 0 x1) 379 1 x2) 379 2 x3) 379 3 x4) 375 2)) → Q (some (vI x1)) (upm (upm (upm (upm V 379 0 x1) 379 1 x2) 379 2 x3) 379 3 x4)))) : Mf K (d + 1) mX12_weighs [vR 369, vI x1, vI x2, vI x3, vI x4] V Q := by
  refine Mt.of2 (L := [some (vR 369), some (vI x1), some (vI x2), some (vI x3), some (vI x4)]) pnX12 rfl rfl ?_
  refine wp_aload_n dX12_weighs_0 rfl rfl ?_
  refine wp_getR (b := 379) dX12_weighs_1 fX12_87 rfl sh369 (by decide) rfl ?_
  refine wp_iconst dX12_weighs_4 (by decide) ?_
  refine wp_iload_n dX12_weighs_5 rfl rfl ?_
  refine wp_iast dX12_weighs_6 sh379 (by decide) ?_
  refine wp_aload_n dX12_weighs_7 rfl rfl ?_
  refine wp_getR (b := 379) dX12_weighs_8 fX12_87 rfl sh369 (by decide) rfl ?_
  refine wp_iconst dX12_weighs_11 (by decide) ?_
  refine wp_iload_n dX12_weighs_12 rfl rfl ?_
  refine wp_iast dX12_weighs_13 sh379 (by decide) ?_
  refine wp_aload_n dX12_weighs_14 rfl rfl ?_
  refine wp_getR (b := 379) dX12_weighs_15 fX12_87 rfl sh369 (by decide) rfl ?_
  refine wp_iconst dX12_weighs_18 (by decide) ?_
  refine wp_iload_n dX12_weighs_19 rfl rfl ?_
  refine wp_iast dX12_weighs_20 sh379 (by decide) ?_
  refine wp_aload_n dX12_weighs_21 rfl rfl ?_
  refine wp_getR (b := 379) dX12_weighs_22 fX12_87 rfl sh369 (by decide) rfl ?_
  refine wp_iconst dX12_weighs_25 (by decide) ?_
  refine wp_iload dX12_weighs_26 rfl ?_
  refine wp_iast dX12_weighs_28 sh379 (by decide) ?_
  refine wp_aload_n dX12_weighs_29 rfl rfl ?_
  refine wp_getR (b := 375) dX12_weighs_30 fX12_75 rfl sh369 (by decide) rfl ?_
  refine wp_iconst dX12_weighs_33 (by decide) ?_
  refine wp_iald dX12_weighs_34 sh375 (by decide) ?_
  refine wp_if_ge (tgt := 42) dX12_weighs_35 rfl (fun c1 => ?_) (fun c1 => ?_)
  ·
    refine wp_aload_n dX12_weighs_42 rfl rfl ?_
    refine wp_aload_n dX12_weighs_43 rfl rfl ?_
    refine wp_getR (b := 375) dX12_weighs_44 fX12_75 rfl sh369 (by decide) rfl ?_
    refine wp_iconst dX12_weighs_47 (by decide) ?_
    refine wp_iald dX12_weighs_48 sh375 (by decide) ?_
    refine wp_callV (S := []) (as := [vI ((upm (upm (upm (upm V 379 0 x1) 379 1 x2) 379 2 x3) 379 3 x4) 375 2)]) dX12_weighs_49 lX12_295 ((h.1 c1)) (by omega) sh369 rfl rfl (Nat.le_of_ble_eq_true rfl) ⟨Nat.le_refl _, Nat.le_refl _⟩ ?_
    rintro _ _ V2 ⟨rfl, z2, rfl, q2⟩
    show Wp _ _ _ _ _ 52 _ [vI z2] _ _ _ _ _
    exact wp_ireturn dX12_weighs_52 rfl ⟨rfl, rfl⟩ ⟨rfl, q2⟩
  ·
    refine wp_iload_n dX12_weighs_38 rfl rfl ?_
    refine wp_goto (tgt := 52) dX12_weighs_39 rfl ?_
    exact wp_ireturn dX12_weighs_52 rfl ⟨rfl, rfl⟩ ⟨rfl, (h.2 c1)⟩
set_option maxHeartbeats 4000000 in
set_option maxRecDepth 10000 in
theorem sX12_laysRow {K : KK} {d : Nat} {V : Mem} {Q : Option AV → Mem → Prop} (x1 : Int) (h : (((0 : Int) ≤ (w32 (3 + (w32 (22 * x1)))) ∧ (w32 (3 + (w32 (22 * x1)))) < (280 : Nat)) ∧ (((0 : Int) ≤ (w32 (0 + x1)) ∧ (w32 (0 + x1)) < (4532 : Nat)) ∧ Wf K (d + 2) mX12_laysRow 21 [some (vR 369), some (vI x1), some (vI 0)] [] (upm (upm V 369 22 (V 375 (Int.toNat (w32 (3 + (w32 (22 * x1))))))) 369 23 ((upm V 369 22 (V 375 (Int.toNat (w32 (3 + (w32 (22 * x1))))))) 381 (Int.toNat (w32 (0 + x1))))) Q))) : Mf K (d + 2) mX12_laysRow [vR 369, vI x1] V Q := by
  refine Mt.of2 (L := [some (vR 369), some (vI x1), none]) pnX12 rfl rfl ?_
  refine wp_aload_n dX12_laysRow_0 rfl rfl ?_
  refine wp_aload_n dX12_laysRow_1 rfl rfl ?_
  refine wp_iload_n dX12_laysRow_2 rfl rfl ?_
  refine wp_inlV (d' := (d + 1)) (S := [vR 369]) (as := [vI x1]) dX12_laysRow_3 lX12_298 (by omega) sh369 rfl rfl (Nat.le_of_ble_eq_true rfl) ⟨Nat.le_refl _, Nat.le_refl _⟩ (Mt.of2 (L := [some (vR 369), some (vI x1)]) pnX12 rfl rfl ?_)
  refine wp_aload_n dX12_kindOf_0 rfl rfl ?_
  refine wp_getR (b := 375) dX12_kindOf_1 fX12_75 rfl sh369 (by decide) rfl ?_
  refine wp_iconst dX12_kindOf_4 (by decide) ?_
  refine wp_bipush dX12_kindOf_5 (by decide) ?_
  refine wp_iload_n dX12_kindOf_7 rfl rfl ?_
  refine wp_imul dX12_kindOf_8 ?_
  refine wp_iadd dX12_kindOf_9 ?_
  refine wp_iald dX12_kindOf_10 sh375 h.1 ?_
  refine wp_ireturn dX12_kindOf_11 rfl ⟨rfl, rfl⟩ ?_
  show Wp _ _ _ _ _ 6 _ [vI (V 375 (Int.toNat (w32 (3 + (w32 (22 * x1)))))), vR 369] _ _ _ _ _
  refine wp_putI dX12_laysRow_6 fwX12_301 rfl sh369 (by decide) ?_
  refine wp_aload_n dX12_laysRow_9 rfl rfl ?_
  refine wp_aload_n dX12_laysRow_10 rfl rfl ?_
  refine wp_iconst dX12_laysRow_11 (by decide) ?_
  refine wp_iload_n dX12_laysRow_12 rfl rfl ?_
  refine wp_inlV (d' := (d + 1)) (S := [vR 369]) (as := [vI 0, vI x1]) dX12_laysRow_13 lX12_292 (by omega) sh369 rfl rfl (Nat.le_of_ble_eq_true rfl) ⟨Nat.le_refl _, Nat.le_refl _⟩ (Mt.of2 (L := [some (vR 369), some (vI 0), some (vI x1)]) pnX12 rfl rfl ?_)
  refine wp_aload_n dX12_manyOf_0 rfl rfl ?_
  refine wp_getR (b := 381) dX12_manyOf_1 fX12_93 rfl sh369 (by decide) rfl ?_
  refine wp_iload_n dX12_manyOf_4 rfl rfl ?_
  refine wp_iload_n dX12_manyOf_5 rfl rfl ?_
  refine wp_iadd dX12_manyOf_6 ?_
  refine wp_iald dX12_manyOf_7 sh381 h.2.1 ?_
  refine wp_ireturn dX12_manyOf_8 rfl ⟨rfl, rfl⟩ ?_
  show Wp _ _ _ _ _ 16 _ [vI ((upm V 369 22 (V 375 (Int.toNat (w32 (3 + (w32 (22 * x1))))))) 381 (Int.toNat (w32 (0 + x1)))), vR 369] _ _ _ _ _
  refine wp_putI dX12_laysRow_16 fwX12_304 rfl sh369 (by decide) ?_
  refine wp_iconst dX12_laysRow_19 (by decide) ?_
  refine wp_istore_n dX12_laysRow_20 rfl (by decide) rfl ?_
  exact h.2.2
set_option maxHeartbeats 4000000 in
set_option maxRecDepth 10000 in
theorem sX12_laysRow_21 {K : KK} {d : Nat} {V : Mem} {Q : Option AV → Mem → Prop} (x1 : Int) (x2 : Int) (h : (((V 369 23) ≤ x2 → Q none V) ∧ (¬ ((V 369 23) ≤ x2) → (((0 : Int) ≤ (w32 ((w32 ((w32 (0 + 4)) + (w32 (20 * x1)))) + x2)) ∧ (w32 ((w32 ((w32 (0 + 4)) + (w32 (20 * x1)))) + x2)) < (4532 : Nat)) ∧ ((0 ≤ ((upm (upm (upm (upm V 379 0 (V 381 (Int.toNat (w32 ((w32 ((w32 (0 + 4)) + (w32 (20 * x1)))) + x2))))) 379 1 x2) 379 2 (V 369 23)) 379 3 (V 369 22)) 375 2) → Mf K d mX12_worthAt [vR 369, vI ((upm (upm (upm (upm V 379 0 (V 381 (Int.toNat (w32 ((w32 ((w32 (0 + 4)) + (w32 (20 * x1)))) + x2))))) 379 1 x2) 379 2 (V 369 23)) 379 3 (V 369 22)) 375 2)] (upm (upm (upm (upm V 379 0 (V 381 (Int.toNat (w32 ((w32 ((w32 (0 + 4)) + (w32 (20 * x1)))) + x2))))) 379 1 x2) 379 2 (V 369 23)) 379 3 (V 369 22)) (fun r V3 => ∃ z3, r = some (vI z3) ∧ (((0 : Int) ≤ x2 ∧ x2 < (20 : Nat)) ∧ Wf K (d + 2) mX12_laysRow 21 [some (vR 369), some (vI x1), some (vI (w32 (x2 + 1)))] [] (upm V3 383 (Int.toNat x2) z3) Q))) ∧ (¬ (0 ≤ ((upm (upm (upm (upm V 379 0 (V 381 (Int.toNat (w32 ((w32 ((w32 (0 + 4)) + (w32 (20 * x1)))) + x2))))) 379 1 x2) 379 2 (V 369 23)) 379 3 (V 369 22)) 375 2)) → (((0 : Int) ≤ x2 ∧ x2 < (20 : Nat)) ∧ Wf K (d + 2) mX12_laysRow 21 [some (vR 369), some (vI x1), some (vI (w32 (x2 + 1)))] [] (upm (upm (upm (upm (upm V 379 0 (V 381 (Int.toNat (w32 ((w32 ((w32 (0 + 4)) + (w32 (20 * x1)))) + x2))))) 379 1 x2) 379 2 (V 369 23)) 379 3 (V 369 22)) 383 (Int.toNat x2) (V 381 (Int.toNat (w32 ((w32 ((w32 (0 + 4)) + (w32 (20 * x1)))) + x2))))) Q))))))) : Wf K (d + 2) mX12_laysRow 21 [some (vR 369), some (vI x1), some (vI x2)] [] V Q := by
  refine wp_iload_n dX12_laysRow_21 rfl rfl ?_
  refine wp_aload_n dX12_laysRow_22 rfl rfl ?_
  refine wp_getI dX12_laysRow_23 fX12_304 rfl sh369 (by decide) ?_
  refine wp_icmp_ge (tgt := 65) dX12_laysRow_26 rfl (fun c1 => ?_) (fun c1 => ?_)
  ·
    exact wp_return dX12_laysRow_65 rfl ⟨rfl, rfl⟩ ⟨rfl, (h.1 c1)⟩
  ·
    refine wp_aload_n dX12_laysRow_29 rfl rfl ?_
    refine wp_getR (b := 383) dX12_laysRow_30 fX12_100 rfl sh369 (by decide) rfl ?_
    refine wp_iload_n dX12_laysRow_33 rfl rfl ?_
    refine wp_aload_n dX12_laysRow_34 rfl rfl ?_
    refine wp_aload_n dX12_laysRow_35 rfl rfl ?_
    refine wp_getR (b := 381) dX12_laysRow_36 fX12_93 rfl sh369 (by decide) rfl ?_
    refine wp_iconst dX12_laysRow_39 (by decide) ?_
    refine wp_iload_n dX12_laysRow_40 rfl rfl ?_
    refine wp_iload_n dX12_laysRow_41 rfl rfl ?_
    refine wp_inlS (d' := (d + 1)) (S := [vR 381, vR 369, vI x2, vR 383]) (as := [vI 0, vI x1, vI x2]) dX12_laysRow_42 lX12_307 (by omega) rfl rfl (Nat.le_of_ble_eq_true rfl) ⟨Nat.le_refl _, Nat.le_refl _⟩ (Mt.of2 (L := [some (vI 0), some (vI x1), some (vI x2)]) pnX12 rfl rfl ?_)
    refine wp_iload_n dX12_numberAt_0 rfl rfl ?_
    refine wp_iconst dX12_numberAt_1 (by decide) ?_
    refine wp_iadd dX12_numberAt_2 ?_
    refine wp_bipush dX12_numberAt_3 (by decide) ?_
    refine wp_iload_n dX12_numberAt_5 rfl rfl ?_
    refine wp_imul dX12_numberAt_6 ?_
    refine wp_iadd dX12_numberAt_7 ?_
    refine wp_iload_n dX12_numberAt_8 rfl rfl ?_
    refine wp_iadd dX12_numberAt_9 ?_
    refine wp_ireturn dX12_numberAt_10 rfl ⟨rfl, rfl⟩ ?_
    show Wp _ _ _ _ _ 45 _ [vI (w32 ((w32 ((w32 (0 + 4)) + (w32 (20 * x1)))) + x2)), vR 381, vR 369, vI x2, vR 383] _ _ _ _ _
    refine wp_iald dX12_laysRow_45 sh381 (h.2 c1).1 ?_
    refine wp_iload_n dX12_laysRow_46 rfl rfl ?_
    refine wp_aload_n dX12_laysRow_47 rfl rfl ?_
    refine wp_getI dX12_laysRow_48 fX12_304 rfl sh369 (by decide) ?_
    refine wp_aload_n dX12_laysRow_51 rfl rfl ?_
    refine wp_getI dX12_laysRow_52 fX12_301 rfl sh369 (by decide) ?_
    refine wp_inlV (d' := (d + 1)) (S := [vI x2, vR 383]) (as := [vI (V 381 (Int.toNat (w32 ((w32 ((w32 (0 + 4)) + (w32 (20 * x1)))) + x2)))), vI x2, vI (V 369 23), vI (V 369 22)]) dX12_laysRow_55 lX12_310 (by omega) sh369 rfl rfl (Nat.le_of_ble_eq_true rfl) ⟨Nat.le_refl _, Nat.le_refl _⟩ (Mt.of2 (L := [some (vR 369), some (vI (V 381 (Int.toNat (w32 ((w32 ((w32 (0 + 4)) + (w32 (20 * x1)))) + x2))))), some (vI x2), some (vI (V 369 23)), some (vI (V 369 22))]) pnX12 rfl rfl ?_)
    refine wp_aload_n dX12_weighs_0 rfl rfl ?_
    refine wp_getR (b := 379) dX12_weighs_1 fX12_87 rfl sh369 (by decide) rfl ?_
    refine wp_iconst dX12_weighs_4 (by decide) ?_
    refine wp_iload_n dX12_weighs_5 rfl rfl ?_
    refine wp_iast dX12_weighs_6 sh379 (by decide) ?_
    refine wp_aload_n dX12_weighs_7 rfl rfl ?_
    refine wp_getR (b := 379) dX12_weighs_8 fX12_87 rfl sh369 (by decide) rfl ?_
    refine wp_iconst dX12_weighs_11 (by decide) ?_
    refine wp_iload_n dX12_weighs_12 rfl rfl ?_
    refine wp_iast dX12_weighs_13 sh379 (by decide) ?_
    refine wp_aload_n dX12_weighs_14 rfl rfl ?_
    refine wp_getR (b := 379) dX12_weighs_15 fX12_87 rfl sh369 (by decide) rfl ?_
    refine wp_iconst dX12_weighs_18 (by decide) ?_
    refine wp_iload_n dX12_weighs_19 rfl rfl ?_
    refine wp_iast dX12_weighs_20 sh379 (by decide) ?_
    refine wp_aload_n dX12_weighs_21 rfl rfl ?_
    refine wp_getR (b := 379) dX12_weighs_22 fX12_87 rfl sh369 (by decide) rfl ?_
    refine wp_iconst dX12_weighs_25 (by decide) ?_
    refine wp_iload dX12_weighs_26 rfl ?_
    refine wp_iast dX12_weighs_28 sh379 (by decide) ?_
    refine wp_aload_n dX12_weighs_29 rfl rfl ?_
    refine wp_getR (b := 375) dX12_weighs_30 fX12_75 rfl sh369 (by decide) rfl ?_
    refine wp_iconst dX12_weighs_33 (by decide) ?_
    refine wp_iald dX12_weighs_34 sh375 (by decide) ?_
    refine wp_if_ge (tgt := 42) dX12_weighs_35 rfl (fun c2 => ?_) (fun c2 => ?_)
    ·
      refine wp_aload_n dX12_weighs_42 rfl rfl ?_
      refine wp_aload_n dX12_weighs_43 rfl rfl ?_
      refine wp_getR (b := 375) dX12_weighs_44 fX12_75 rfl sh369 (by decide) rfl ?_
      refine wp_iconst dX12_weighs_47 (by decide) ?_
      refine wp_iald dX12_weighs_48 sh375 (by decide) ?_
      refine wp_callV (S := []) (as := [vI ((upm (upm (upm (upm V 379 0 (V 381 (Int.toNat (w32 ((w32 ((w32 (0 + 4)) + (w32 (20 * x1)))) + x2))))) 379 1 x2) 379 2 (V 369 23)) 379 3 (V 369 22)) 375 2)]) dX12_weighs_49 lX12_295 (((h.2 c1).2.1 c2)) (by omega) sh369 rfl rfl (Nat.le_of_ble_eq_true rfl) ⟨Nat.le_refl _, Nat.le_refl _⟩ ?_
      rintro _ _ V3 ⟨rfl, z3, rfl, q3⟩
      show Wp _ _ _ _ _ 52 _ [vI z3] _ _ _ _ _
      refine wp_ireturn dX12_weighs_52 rfl ⟨rfl, rfl⟩ ?_
      show Wp _ _ _ _ _ 58 _ [vI z3, vI x2, vR 383] _ _ _ _ _
      refine wp_iast dX12_laysRow_58 sh383 q3.1 ?_
      refine wp_iinc dX12_laysRow_59 rfl rfl ?_
      refine wp_goto (tgt := 21) dX12_laysRow_62 rfl ?_
      exact q3.2
    ·
      refine wp_iload_n dX12_weighs_38 rfl rfl ?_
      refine wp_goto (tgt := 52) dX12_weighs_39 rfl ?_
      refine wp_ireturn dX12_weighs_52 rfl ⟨rfl, rfl⟩ ?_
      show Wp _ _ _ _ _ 58 _ [vI (V 381 (Int.toNat (w32 ((w32 ((w32 (0 + 4)) + (w32 (20 * x1)))) + x2)))), vI x2, vR 383] _ _ _ _ _
      refine wp_iast dX12_laysRow_58 sh383 ((h.2 c1).2.2 c2).1 ?_
      refine wp_iinc dX12_laysRow_59 rfl rfl ?_
      refine wp_goto (tgt := 21) dX12_laysRow_62 rfl ?_
      exact ((h.2 c1).2.2 c2).2
set_option maxHeartbeats 4000000 in
set_option maxRecDepth 10000 in
theorem sX12_follows {K : KK} {d : Nat} {V : Mem} {Q : Option AV → Mem → Prop} (x1 : Int) (x2 : Int) (h : (((V 369 22) = 1 → ((x1 < x2 → Q (some (vI 0)) V) ∧ (¬ (x1 < x2) → Q (some (vI 1)) V))) ∧ ((V 369 22) = 2 → ((x2 ≤ x1 → Q (some (vI 0)) V) ∧ (¬ (x2 ≤ x1) → Q (some (vI 1)) V))) ∧ ((V 369 22) = 3 → ((x2 < x1 → Q (some (vI 0)) V) ∧ (¬ (x2 < x1) → Q (some (vI 1)) V))) ∧ (((V 369 22) < 1 ∨ 3 < (V 369 22)) → ((x1 ≤ x2 → Q (some (vI 0)) V) ∧ (¬ (x1 ≤ x2) → Q (some (vI 1)) V))))) : Mf K d mX12_follows [vR 369, vI x1, vI x2] V Q := by
  refine Mt.of2 (L := [some (vR 369), some (vI x1), some (vI x2)]) pnX12 rfl rfl ?_
  refine wp_aload_n dX12_follows_0 rfl rfl ?_
  refine wp_getI dX12_follows_1 fX12_301 rfl sh369 (by decide) ?_
  refine tswS 1 3 (V 369 22) (fun o5 => ?_) (fun l5 u5 => ?_)
  ·
    refine wp_tswOut (tgt := 65) dX12_follows_4 o5 rfl ?_
    refine wp_iload_n dX12_follows_65 rfl rfl ?_
    refine wp_iload_n dX12_follows_66 rfl rfl ?_
    refine wp_icmp_le (tgt := 74) dX12_follows_67 rfl (fun c4 => ?_) (fun c4 => ?_)
    ·
      refine wp_iconst dX12_follows_74 (by decide) ?_
      exact wp_zreturn dX12_follows_75 rfl ⟨rfl, rfl⟩ (by decide) ⟨rfl, (((h.2.2.2) o5).1 c4)⟩
    ·
      refine wp_iconst dX12_follows_70 (by decide) ?_
      refine wp_goto (tgt := 75) dX12_follows_71 rfl ?_
      exact wp_zreturn dX12_follows_75 rfl ⟨rfl, rfl⟩ (by decide) ⟨rfl, (((h.2.2.2) o5).2 c4)⟩
  ·
    rcases (show (V 369 22) = 1 ∨ (V 369 22) = 2 ∨ (V 369 22) = 3 by omega) with e5 | e5 | e5
    ·
      refine wp_tswIn (tgt := 32) dX12_follows_4 l5 u5 (by rw [e5] <;> rfl) rfl ?_
      refine wp_iload_n dX12_follows_32 rfl rfl ?_
      refine wp_iload_n dX12_follows_33 rfl rfl ?_
      refine wp_icmp_lt (tgt := 41) dX12_follows_34 rfl (fun c1 => ?_) (fun c1 => ?_)
      ·
        refine wp_iconst dX12_follows_41 (by decide) ?_
        exact wp_zreturn dX12_follows_42 rfl ⟨rfl, rfl⟩ (by decide) ⟨rfl, (((h.1) e5).1 c1)⟩
      ·
        refine wp_iconst dX12_follows_37 (by decide) ?_
        refine wp_goto (tgt := 42) dX12_follows_38 rfl ?_
        exact wp_zreturn dX12_follows_42 rfl ⟨rfl, rfl⟩ (by decide) ⟨rfl, (((h.1) e5).2 c1)⟩
    ·
      refine wp_tswIn (tgt := 43) dX12_follows_4 l5 u5 (by rw [e5] <;> rfl) rfl ?_
      refine wp_iload_n dX12_follows_43 rfl rfl ?_
      refine wp_iload_n dX12_follows_44 rfl rfl ?_
      refine wp_icmp_ge (tgt := 52) dX12_follows_45 rfl (fun c2 => ?_) (fun c2 => ?_)
      ·
        refine wp_iconst dX12_follows_52 (by decide) ?_
        exact wp_zreturn dX12_follows_53 rfl ⟨rfl, rfl⟩ (by decide) ⟨rfl, (((h.2.1) e5).1 c2)⟩
      ·
        refine wp_iconst dX12_follows_48 (by decide) ?_
        refine wp_goto (tgt := 53) dX12_follows_49 rfl ?_
        exact wp_zreturn dX12_follows_53 rfl ⟨rfl, rfl⟩ (by decide) ⟨rfl, (((h.2.1) e5).2 c2)⟩
    ·
      refine wp_tswIn (tgt := 54) dX12_follows_4 l5 u5 (by rw [e5] <;> rfl) rfl ?_
      refine wp_iload_n dX12_follows_54 rfl rfl ?_
      refine wp_iload_n dX12_follows_55 rfl rfl ?_
      refine wp_icmp_gt (tgt := 63) dX12_follows_56 rfl (fun c3 => ?_) (fun c3 => ?_)
      ·
        refine wp_iconst dX12_follows_63 (by decide) ?_
        exact wp_zreturn dX12_follows_64 rfl ⟨rfl, rfl⟩ (by decide) ⟨rfl, (((h.2.2.1) e5).1 c3)⟩
      ·
        refine wp_iconst dX12_follows_59 (by decide) ?_
        refine wp_goto (tgt := 64) dX12_follows_60 rfl ?_
        exact wp_zreturn dX12_follows_64 rfl ⟨rfl, rfl⟩ (by decide) ⟨rfl, (((h.2.2.1) e5).2 c3)⟩
set_option maxHeartbeats 4000000 in
set_option maxRecDepth 10000 in
theorem sX12_longAt {K : KK} {d : Nat} {V : Mem} {Q : Option AV → Mem → Prop} (x1 : Int) (x2 : Int) (h : (((0 : Int) ≤ (w32 ((w32 (21 * x1)) + x2)) ∧ (w32 ((w32 (21 * x1)) + x2)) < (441 : Nat)) ∧ Q (some (vI (V 384 (Int.toNat (w32 ((w32 (21 * x1)) + x2)))))) V)) : Mf K d mX12_longAt [vR 369, vI x1, vI x2] V Q := by
  refine Mt.of2 (L := [some (vR 369), some (vI x1), some (vI x2)]) pnX12 rfl rfl ?_
  refine wp_aload_n dX12_longAt_0 rfl rfl ?_
  refine wp_getR (b := 384) dX12_longAt_1 fX12_103 rfl sh369 (by decide) rfl ?_
  refine wp_bipush dX12_longAt_4 (by decide) ?_
  refine wp_iload_n dX12_longAt_6 rfl rfl ?_
  refine wp_imul dX12_longAt_7 ?_
  refine wp_iload_n dX12_longAt_8 rfl rfl ?_
  refine wp_iadd dX12_longAt_9 ?_
  refine wp_iald dX12_longAt_10 sh384 h.1 ?_
  exact wp_ireturn dX12_longAt_11 rfl ⟨rfl, rfl⟩ ⟨rfl, h.2⟩
set_option maxHeartbeats 4000000 in
set_option maxRecDepth 10000 in
theorem sX12_findsEnding {K : KK} {d : Nat} {V : Mem} {Q : Option AV → Mem → Prop} (x1 : Int) (x2 : Int) (h : Wf K (d + 1) mX12_findsEnding 2 [some (vR 369), some (vI x1), some (vI x2), some (vI x1), none] [] V Q) : Mf K (d + 1) mX12_findsEnding [vR 369, vI x1, vI x2] V Q := by
  refine Mt.of2 (L := [some (vR 369), some (vI x1), some (vI x2), none, none]) pnX12 rfl rfl ?_
  refine wp_iload_n dX12_findsEnding_0 rfl rfl ?_
  refine wp_istore_n dX12_findsEnding_1 rfl (by decide) rfl ?_
  exact h
set_option maxHeartbeats 4000000 in
set_option maxRecDepth 10000 in
theorem sX12_findsEnding_2 {K : KK} {d : Nat} {V : Mem} {Q : Option AV → Mem → Prop} (x1 : Int) (x2 : Int) (x3 : Int) (h : ((x2 ≤ x3 → Q none V) ∧ (¬ (x2 ≤ x3) → (((0 : Int) ≤ x3 ∧ x3 < (20 : Nat)) ∧ (((0 : Int) ≤ x3 ∧ x3 < (20 : Nat)) ∧ Wf K (d + 1) mX12_findsEnding 24 [some (vR 369), some (vI x1), some (vI x2), some (vI x3), some (vI x1)] [] (upm (upm V 385 (Int.toNat x3) 1) 387 (Int.toNat x3) 1) Q))))) : Wf K (d + 1) mX12_findsEnding 2 [some (vR 369), some (vI x1), some (vI x2), some (vI x3), none] [] V Q := by
  refine wp_iload_n dX12_findsEnding_2 rfl rfl ?_
  refine wp_iload_n dX12_findsEnding_3 rfl rfl ?_
  refine wp_icmp_ge (tgt := 179) dX12_findsEnding_4 rfl (fun c1 => ?_) (fun c1 => ?_)
  ·
    exact wp_return dX12_findsEnding_179 rfl ⟨rfl, rfl⟩ ⟨rfl, (h.1 c1)⟩
  ·
    refine wp_aload_n dX12_findsEnding_7 rfl rfl ?_
    refine wp_getR (b := 385) dX12_findsEnding_8 fX12_106 rfl sh369 (by decide) rfl ?_
    refine wp_iload_n dX12_findsEnding_11 rfl rfl ?_
    refine wp_iconst dX12_findsEnding_12 (by decide) ?_
    refine wp_iast dX12_findsEnding_13 sh385 (h.2 c1).1 ?_
    refine wp_aload_n dX12_findsEnding_14 rfl rfl ?_
    refine wp_getR (b := 387) dX12_findsEnding_15 fX12_112 rfl sh369 (by decide) rfl ?_
    refine wp_iload_n dX12_findsEnding_18 rfl rfl ?_
    refine wp_lconst dX12_findsEnding_19 rfl ?_
    refine wp_last dX12_findsEnding_20 sh387 (h.2 c1).2.1 ?_
    refine wp_iload_n dX12_findsEnding_21 rfl rfl ?_
    refine wp_istore dX12_findsEnding_22 (by decide) rfl ?_
    exact (h.2 c1).2.2
set_option maxHeartbeats 4000000 in
set_option maxRecDepth 10000 in
theorem sX12_findsEnding_24 {K : KK} {d : Nat} {V : Mem} {Q : Option AV → Mem → Prop} (x1 : Int) (x2 : Int) (x3 : Int) (x4 : Int) (h : ((x3 ≤ x4 → Wf K (d + 1) mX12_findsEnding 2 [some (vR 369), some (vI x1), some (vI x2), some (vI (w32 (x3 + 1))), none] [] V Q) ∧ (¬ (x3 ≤ x4) → (((0 : Int) ≤ x3 ∧ x3 < (20 : Nat)) ∧ (((0 : Int) ≤ x4 ∧ x4 < (20 : Nat)) ∧ Mf K d mX12_follows [vR 369, vI (V 383 (Int.toNat x3)), vI (V 383 (Int.toNat x4))] V (fun r V2 => ∃ z2, r = some (vI z2) ∧ ((z2 = 0 → Wf K (d + 1) mX12_findsEnding 167 [some (vR 369), some (vI x1), some (vI x2), some (vI x3), some (vI x4)] [] V2 Q) ∧ (¬ (z2 = 0) → (((0 : Int) ≤ x4 ∧ x4 < (20 : Nat)) ∧ (((0 : Int) ≤ x3 ∧ x3 < (20 : Nat)) ∧ (((w32 ((V2 385 (Int.toNat x4)) + 1)) ≤ (V2 385 (Int.toNat x3)) → (((0 : Int) ≤ x4 ∧ x4 < (20 : Nat)) ∧ (((0 : Int) ≤ x3 ∧ x3 < (20 : Nat)) ∧ ((¬ (w32 ((V2 385 (Int.toNat x4)) + 1)) = (V2 385 (Int.toNat x3)) → (((0 : Int) ≤ x3 ∧ x3 < (20 : Nat)) ∧ Wf K (d + 1) mX12_findsEnding 124 [some (vR 369), some (vI x1), some (vI x2), some (vI x3), some (vI x4)] [vJ (V2 387 (Int.toNat x3)), vI x3, vR 387] V2 Q)) ∧ ((w32 ((V2 385 (Int.toNat x4)) + 1)) = (V2 385 (Int.toNat x3)) → (((0 : Int) ≤ x3 ∧ x3 < (20 : Nat)) ∧ (((0 : Int) ≤ x4 ∧ x4 < (20 : Nat)) ∧ Wf K (d + 1) mX12_findsEnding 124 [some (vR 369), some (vI x1), some (vI x2), some (vI x3), some (vI x4)] [vJ (w64 ((V2 387 (Int.toNat x3)) + (V2 387 (Int.toNat x4)))), vI x3, vR 387] V2 Q))))))) ∧ (¬ ((w32 ((V2 385 (Int.toNat x4)) + 1)) ≤ (V2 385 (Int.toNat x3))) → (((0 : Int) ≤ x4 ∧ x4 < (20 : Nat)) ∧ Wf K (d + 1) mX12_findsEnding 124 [some (vR 369), some (vI x1), some (vI x2), some (vI x3), some (vI x4)] [vJ (V2 387 (Int.toNat x4)), vI x3, vR 387] V2 Q))))))))))))) : Wf K (d + 1) mX12_findsEnding 24 [some (vR 369), some (vI x1), some (vI x2), some (vI x3), some (vI x4)] [] V Q := by
  refine wp_iload dX12_findsEnding_24 rfl ?_
  refine wp_iload_n dX12_findsEnding_26 rfl rfl ?_
  refine wp_icmp_ge (tgt := 173) dX12_findsEnding_27 rfl (fun c1 => ?_) (fun c1 => ?_)
  ·
    refine wp_iinc dX12_findsEnding_173 rfl rfl ?_
    refine wp_goto (tgt := 2) dX12_findsEnding_176 rfl ?_
    exact wp_loc (L2 := [some (vR 369), some (vI x1), some (vI x2), some (vI (w32 (x3 + 1))), none]) ⟨rfl, ⟨rfl, ⟨rfl, ⟨rfl, trivial⟩⟩⟩⟩ (h.1 c1)
  ·
    refine wp_aload_n dX12_findsEnding_30 rfl rfl ?_
    refine wp_aload_n dX12_findsEnding_31 rfl rfl ?_
    refine wp_getR (b := 383) dX12_findsEnding_32 fX12_100 rfl sh369 (by decide) rfl ?_
    refine wp_iload_n dX12_findsEnding_35 rfl rfl ?_
    refine wp_iald dX12_findsEnding_36 sh383 (h.2 c1).1 ?_
    refine wp_aload_n dX12_findsEnding_37 rfl rfl ?_
    refine wp_getR (b := 383) dX12_findsEnding_38 fX12_100 rfl sh369 (by decide) rfl ?_
    refine wp_iload dX12_findsEnding_41 rfl ?_
    refine wp_iald dX12_findsEnding_43 sh383 (h.2 c1).2.1 ?_
    refine wp_callV (S := []) (as := [vI (V 383 (Int.toNat x3)), vI (V 383 (Int.toNat x4))]) dX12_findsEnding_44 lX12_314 ((h.2 c1).2.2) (by omega) sh369 rfl rfl (Nat.le_of_ble_eq_true rfl) ⟨Nat.le_refl _, Nat.le_refl _⟩ ?_
    rintro _ _ V2 ⟨rfl, z2, rfl, q2⟩
    show Wp _ _ _ _ _ 47 _ [vI z2] _ _ _ _ _
    refine wp_if_eq (tgt := 167) dX12_findsEnding_47 rfl (fun c3 => ?_) (fun c3 => ?_)
    ·
      exact (q2.1 c3)
    ·
      refine wp_aload_n dX12_findsEnding_50 rfl rfl ?_
      refine wp_getR (b := 387) dX12_findsEnding_51 fX12_112 rfl sh369 (by decide) rfl ?_
      refine wp_iload_n dX12_findsEnding_54 rfl rfl ?_
      refine wp_aload_n dX12_findsEnding_55 rfl rfl ?_
      refine wp_getR (b := 385) dX12_findsEnding_56 fX12_106 rfl sh369 (by decide) rfl ?_
      refine wp_iload dX12_findsEnding_59 rfl ?_
      refine wp_iald dX12_findsEnding_61 sh385 (q2.2 c3).1 ?_
      refine wp_iconst dX12_findsEnding_62 (by decide) ?_
      refine wp_iadd dX12_findsEnding_63 ?_
      refine wp_aload_n dX12_findsEnding_64 rfl rfl ?_
      refine wp_getR (b := 385) dX12_findsEnding_65 fX12_106 rfl sh369 (by decide) rfl ?_
      refine wp_iload_n dX12_findsEnding_68 rfl rfl ?_
      refine wp_iald dX12_findsEnding_69 sh385 (q2.2 c3).2.1 ?_
      refine wp_icmp_le (tgt := 83) dX12_findsEnding_70 rfl (fun c4 => ?_) (fun c4 => ?_)
      ·
        refine wp_aload_n dX12_findsEnding_83 rfl rfl ?_
        refine wp_getR (b := 385) dX12_findsEnding_84 fX12_106 rfl sh369 (by decide) rfl ?_
        refine wp_iload dX12_findsEnding_87 rfl ?_
        refine wp_iald dX12_findsEnding_89 sh385 ((q2.2 c3).2.2.1 c4).1 ?_
        refine wp_iconst dX12_findsEnding_90 (by decide) ?_
        refine wp_iadd dX12_findsEnding_91 ?_
        refine wp_aload_n dX12_findsEnding_92 rfl rfl ?_
        refine wp_getR (b := 385) dX12_findsEnding_93 fX12_106 rfl sh369 (by decide) rfl ?_
        refine wp_iload_n dX12_findsEnding_96 rfl rfl ?_
        refine wp_iald dX12_findsEnding_97 sh385 ((q2.2 c3).2.2.1 c4).2.1 ?_
        refine wp_icmp_ne (tgt := 118) dX12_findsEnding_98 rfl (fun c5 => ?_) (fun c5 => ?_)
        ·
          refine wp_aload_n dX12_findsEnding_118 rfl rfl ?_
          refine wp_getR (b := 387) dX12_findsEnding_119 fX12_112 rfl sh369 (by decide) rfl ?_
          refine wp_iload_n dX12_findsEnding_122 rfl rfl ?_
          refine wp_lald dX12_findsEnding_123 sh387 (((q2.2 c3).2.2.1 c4).2.2.1 c5).1 ?_
          exact (((q2.2 c3).2.2.1 c4).2.2.1 c5).2
        ·
          refine wp_aload_n dX12_findsEnding_101 rfl rfl ?_
          refine wp_getR (b := 387) dX12_findsEnding_102 fX12_112 rfl sh369 (by decide) rfl ?_
          refine wp_iload_n dX12_findsEnding_105 rfl rfl ?_
          refine wp_lald dX12_findsEnding_106 sh387 (((q2.2 c3).2.2.1 c4).2.2.2 c5).1 ?_
          refine wp_aload_n dX12_findsEnding_107 rfl rfl ?_
          refine wp_getR (b := 387) dX12_findsEnding_108 fX12_112 rfl sh369 (by decide) rfl ?_
          refine wp_iload dX12_findsEnding_111 rfl ?_
          refine wp_lald dX12_findsEnding_113 sh387 (((q2.2 c3).2.2.1 c4).2.2.2 c5).2.1 ?_
          refine wp_ladd dX12_findsEnding_114 ?_
          refine wp_goto (tgt := 124) dX12_findsEnding_115 rfl ?_
          exact (((q2.2 c3).2.2.1 c4).2.2.2 c5).2.2
      ·
        refine wp_aload_n dX12_findsEnding_73 rfl rfl ?_
        refine wp_getR (b := 387) dX12_findsEnding_74 fX12_112 rfl sh369 (by decide) rfl ?_
        refine wp_iload dX12_findsEnding_77 rfl ?_
        refine wp_lald dX12_findsEnding_79 sh387 ((q2.2 c3).2.2.2 c4).1 ?_
        refine wp_goto (tgt := 124) dX12_findsEnding_80 rfl ?_
        exact ((q2.2 c3).2.2.2 c4).2
set_option maxHeartbeats 4000000 in
set_option maxRecDepth 10000 in
theorem sX12_findsEnding_167 {K : KK} {d : Nat} {V : Mem} {Q : Option AV → Mem → Prop} (x1 : Int) (x2 : Int) (x3 : Int) (x4 : Int) (h : Wf K (d + 1) mX12_findsEnding 24 [some (vR 369), some (vI x1), some (vI x2), some (vI x3), some (vI (w32 (x4 + 1)))] [] V Q) : Wf K (d + 1) mX12_findsEnding 167 [some (vR 369), some (vI x1), some (vI x2), some (vI x3), some (vI x4)] [] V Q := by
  refine wp_iinc dX12_findsEnding_167 rfl rfl ?_
  refine wp_goto (tgt := 24) dX12_findsEnding_170 rfl ?_
  exact h
set_option maxHeartbeats 4000000 in
set_option maxRecDepth 10000 in
theorem sX12_findsEnding_124 {K : KK} {d : Nat} {V : Mem} {Q : Option AV → Mem → Prop} (x1 : Int) (x2 : Int) (x3 : Int) (x4 : Int) (s1 : Int) (t2 : Int) (h : (((0 : Int) ≤ s1 ∧ s1 < (20 : Nat)) ∧ (((0 : Int) ≤ x4 ∧ x4 < (20 : Nat)) ∧ (((0 : Int) ≤ x3 ∧ x3 < (20 : Nat)) ∧ (((w32 (((upm V 387 (Int.toNat s1) t2) 385 (Int.toNat x4)) + 1)) ≤ ((upm V 387 (Int.toNat s1) t2) 385 (Int.toNat x3)) → (((0 : Int) ≤ x3 ∧ x3 < (20 : Nat)) ∧ Wf K (d + 1) mX12_findsEnding 166 [some (vR 369), some (vI x1), some (vI x2), some (vI x3), some (vI x4)] [vI ((upm V 387 (Int.toNat s1) t2) 385 (Int.toNat x3)), vI x3, vR 385] (upm V 387 (Int.toNat s1) t2) Q)) ∧ (¬ ((w32 (((upm V 387 (Int.toNat s1) t2) 385 (Int.toNat x4)) + 1)) ≤ ((upm V 387 (Int.toNat s1) t2) 385 (Int.toNat x3))) → (((0 : Int) ≤ x4 ∧ x4 < (20 : Nat)) ∧ Wf K (d + 1) mX12_findsEnding 166 [some (vR 369), some (vI x1), some (vI x2), some (vI x3), some (vI x4)] [vI (w32 (((upm V 387 (Int.toNat s1) t2) 385 (Int.toNat x4)) + 1)), vI x3, vR 385] (upm V 387 (Int.toNat s1) t2) Q))))))) : Wf K (d + 1) mX12_findsEnding 124 [some (vR 369), some (vI x1), some (vI x2), some (vI x3), some (vI x4)] [vJ t2, vI s1, vR 387] V Q := by
  refine wp_last dX12_findsEnding_124 sh387 h.1 ?_
  refine wp_aload_n dX12_findsEnding_125 rfl rfl ?_
  refine wp_getR (b := 385) dX12_findsEnding_126 fX12_106 rfl sh369 (by decide) rfl ?_
  refine wp_iload_n dX12_findsEnding_129 rfl rfl ?_
  refine wp_aload_n dX12_findsEnding_130 rfl rfl ?_
  refine wp_getR (b := 385) dX12_findsEnding_131 fX12_106 rfl sh369 (by decide) rfl ?_
  refine wp_iload dX12_findsEnding_134 rfl ?_
  refine wp_iald dX12_findsEnding_136 sh385 h.2.1 ?_
  refine wp_iconst dX12_findsEnding_137 (by decide) ?_
  refine wp_iadd dX12_findsEnding_138 ?_
  refine wp_aload_n dX12_findsEnding_139 rfl rfl ?_
  refine wp_getR (b := 385) dX12_findsEnding_140 fX12_106 rfl sh369 (by decide) rfl ?_
  refine wp_iload_n dX12_findsEnding_143 rfl rfl ?_
  refine wp_iald dX12_findsEnding_144 sh385 h.2.2.1 ?_
  refine wp_icmp_le (tgt := 160) dX12_findsEnding_145 rfl (fun c1 => ?_) (fun c1 => ?_)
  ·
    refine wp_aload_n dX12_findsEnding_160 rfl rfl ?_
    refine wp_getR (b := 385) dX12_findsEnding_161 fX12_106 rfl sh369 (by decide) rfl ?_
    refine wp_iload_n dX12_findsEnding_164 rfl rfl ?_
    refine wp_iald dX12_findsEnding_165 sh385 (h.2.2.2.1 c1).1 ?_
    exact (h.2.2.2.1 c1).2
  ·
    refine wp_aload_n dX12_findsEnding_148 rfl rfl ?_
    refine wp_getR (b := 385) dX12_findsEnding_149 fX12_106 rfl sh369 (by decide) rfl ?_
    refine wp_iload dX12_findsEnding_152 rfl ?_
    refine wp_iald dX12_findsEnding_154 sh385 (h.2.2.2.2 c1).1 ?_
    refine wp_iconst dX12_findsEnding_155 (by decide) ?_
    refine wp_iadd dX12_findsEnding_156 ?_
    refine wp_goto (tgt := 166) dX12_findsEnding_157 rfl ?_
    exact (h.2.2.2.2 c1).2
set_option maxHeartbeats 4000000 in
set_option maxRecDepth 10000 in
theorem sX12_findsEnding_166 {K : KK} {d : Nat} {V : Mem} {Q : Option AV → Mem → Prop} (x1 : Int) (x2 : Int) (x3 : Int) (x4 : Int) (s1 : Int) (s2 : Int) (h : (((0 : Int) ≤ s1 ∧ s1 < (20 : Nat)) ∧ Wf K (d + 1) mX12_findsEnding 167 [some (vR 369), some (vI x1), some (vI x2), some (vI x3), some (vI x4)] [] (upm V 385 (Int.toNat s1) s2) Q)) : Wf K (d + 1) mX12_findsEnding 166 [some (vR 369), some (vI x1), some (vI x2), some (vI x3), some (vI x4)] [vI s2, vI s1, vR 385] V Q := by
  refine wp_iast dX12_findsEnding_166 sh385 h.1 ?_
  exact h.2
set_option maxHeartbeats 4000000 in
set_option maxRecDepth 10000 in
theorem sX12_findsStarting {K : KK} {d : Nat} {V : Mem} {Q : Option AV → Mem → Prop} (x1 : Int) (x2 : Int) (h : Wf K (d + 1) mX12_findsStarting 4 [some (vR 369), some (vI x1), some (vI x2), some (vI (w32 (x2 - 1))), none] [] V Q) : Mf K (d + 1) mX12_findsStarting [vR 369, vI x1, vI x2] V Q := by
  refine Mt.of2 (L := [some (vR 369), some (vI x1), some (vI x2), none, none]) pnX12 rfl rfl ?_
  refine wp_iload_n dX12_findsStarting_0 rfl rfl ?_
  refine wp_iconst dX12_findsStarting_1 (by decide) ?_
  refine wp_isub dX12_findsStarting_2 ?_
  refine wp_istore_n dX12_findsStarting_3 rfl (by decide) rfl ?_
  exact h
set_option maxHeartbeats 4000000 in
set_option maxRecDepth 10000 in
theorem sX12_findsStarting_4 {K : KK} {d : Nat} {V : Mem} {Q : Option AV → Mem → Prop} (x1 : Int) (x2 : Int) (x3 : Int) (h : ((x3 < x1 → Q none V) ∧ (¬ (x3 < x1) → (((0 : Int) ≤ x3 ∧ x3 < (20 : Nat)) ∧ Wf K (d + 1) mX12_findsStarting 21 [some (vR 369), some (vI x1), some (vI x2), some (vI x3), some (vI (w32 (x3 + 1)))] [] (upm V 386 (Int.toNat x3) 1) Q)))) : Wf K (d + 1) mX12_findsStarting 4 [some (vR 369), some (vI x1), some (vI x2), some (vI x3), none] [] V Q := by
  refine wp_iload_n dX12_findsStarting_4 rfl rfl ?_
  refine wp_iload_n dX12_findsStarting_5 rfl rfl ?_
  refine wp_icmp_lt (tgt := 101) dX12_findsStarting_6 rfl (fun c1 => ?_) (fun c1 => ?_)
  ·
    exact wp_return dX12_findsStarting_101 rfl ⟨rfl, rfl⟩ ⟨rfl, (h.1 c1)⟩
  ·
    refine wp_aload_n dX12_findsStarting_9 rfl rfl ?_
    refine wp_getR (b := 386) dX12_findsStarting_10 fX12_109 rfl sh369 (by decide) rfl ?_
    refine wp_iload_n dX12_findsStarting_13 rfl rfl ?_
    refine wp_iconst dX12_findsStarting_14 (by decide) ?_
    refine wp_iast dX12_findsStarting_15 sh386 (h.2 c1).1 ?_
    refine wp_iload_n dX12_findsStarting_16 rfl rfl ?_
    refine wp_iconst dX12_findsStarting_17 (by decide) ?_
    refine wp_iadd dX12_findsStarting_18 ?_
    refine wp_istore dX12_findsStarting_19 (by decide) rfl ?_
    exact (h.2 c1).2
set_option maxHeartbeats 4000000 in
set_option maxRecDepth 10000 in
theorem sX12_findsStarting_21 {K : KK} {d : Nat} {V : Mem} {Q : Option AV → Mem → Prop} (x1 : Int) (x2 : Int) (x3 : Int) (x4 : Int) (h : ((x2 ≤ x4 → Wf K (d + 1) mX12_findsStarting 4 [some (vR 369), some (vI x1), some (vI x2), some (vI (w32 (x3 + (-1)))), none] [] V Q) ∧ (¬ (x2 ≤ x4) → (((0 : Int) ≤ x4 ∧ x4 < (20 : Nat)) ∧ (((0 : Int) ≤ x3 ∧ x3 < (20 : Nat)) ∧ Mf K d mX12_follows [vR 369, vI (V 383 (Int.toNat x4)), vI (V 383 (Int.toNat x3))] V (fun r V2 => ∃ z2, r = some (vI z2) ∧ ((z2 = 0 → (((0 : Int) ≤ x3 ∧ x3 < (20 : Nat)) ∧ (((0 : Int) ≤ x3 ∧ x3 < (20 : Nat)) ∧ Wf K (d + 1) mX12_findsStarting 21 [some (vR 369), some (vI x1), some (vI x2), some (vI x3), some (vI (w32 (x4 + 1)))] [] (upm V2 386 (Int.toNat x3) (V2 386 (Int.toNat x3))) Q))) ∧ (¬ (z2 = 0) → (((0 : Int) ≤ x4 ∧ x4 < (20 : Nat)) ∧ (((0 : Int) ≤ x3 ∧ x3 < (20 : Nat)) ∧ (((w32 ((V2 386 (Int.toNat x4)) + 1)) ≤ (V2 386 (Int.toNat x3)) → (((0 : Int) ≤ x3 ∧ x3 < (20 : Nat)) ∧ (((0 : Int) ≤ x3 ∧ x3 < (20 : Nat)) ∧ Wf K (d + 1) mX12_findsStarting 21 [some (vR 369), some (vI x1), some (vI x2), some (vI x3), some (vI (w32 (x4 + 1)))] [] (upm V2 386 (Int.toNat x3) (V2 386 (Int.toNat x3))) Q))) ∧ (¬ ((w32 ((V2 386 (Int.toNat x4)) + 1)) ≤ (V2 386 (Int.toNat x3))) → (((0 : Int) ≤ x4 ∧ x4 < (20 : Nat)) ∧ (((0 : Int) ≤ x3 ∧ x3 < (20 : Nat)) ∧ Wf K (d + 1) mX12_findsStarting 21 [some (vR 369), some (vI x1), some (vI x2), some (vI x3), some (vI (w32 (x4 + 1)))] [] (upm V2 386 (Int.toNat x3) (w32 ((V2 386 (Int.toNat x4)) + 1))) Q)))))))))))))) : Wf K (d + 1) mX12_findsStarting 21 [some (vR 369), some (vI x1), some (vI x2), some (vI x3), some (vI x4)] [] V Q := by
  refine wp_iload dX12_findsStarting_21 rfl ?_
  refine wp_iload_n dX12_findsStarting_23 rfl rfl ?_
  refine wp_icmp_ge (tgt := 95) dX12_findsStarting_24 rfl (fun c1 => ?_) (fun c1 => ?_)
  ·
    refine wp_iinc dX12_findsStarting_95 rfl rfl ?_
    refine wp_goto (tgt := 4) dX12_findsStarting_98 rfl ?_
    exact wp_loc (L2 := [some (vR 369), some (vI x1), some (vI x2), some (vI (w32 (x3 + (-1)))), none]) ⟨rfl, ⟨rfl, ⟨rfl, ⟨rfl, trivial⟩⟩⟩⟩ (h.1 c1)
  ·
    refine wp_aload_n dX12_findsStarting_27 rfl rfl ?_
    refine wp_getR (b := 386) dX12_findsStarting_28 fX12_109 rfl sh369 (by decide) rfl ?_
    refine wp_iload_n dX12_findsStarting_31 rfl rfl ?_
    refine wp_aload_n dX12_findsStarting_32 rfl rfl ?_
    refine wp_aload_n dX12_findsStarting_33 rfl rfl ?_
    refine wp_getR (b := 383) dX12_findsStarting_34 fX12_100 rfl sh369 (by decide) rfl ?_
    refine wp_iload dX12_findsStarting_37 rfl ?_
    refine wp_iald dX12_findsStarting_39 sh383 (h.2 c1).1 ?_
    refine wp_aload_n dX12_findsStarting_40 rfl rfl ?_
    refine wp_getR (b := 383) dX12_findsStarting_41 fX12_100 rfl sh369 (by decide) rfl ?_
    refine wp_iload_n dX12_findsStarting_44 rfl rfl ?_
    refine wp_iald dX12_findsStarting_45 sh383 (h.2 c1).2.1 ?_
    refine wp_callV (S := [vI x3, vR 386]) (as := [vI (V 383 (Int.toNat x4)), vI (V 383 (Int.toNat x3))]) dX12_findsStarting_46 lX12_314 ((h.2 c1).2.2) (by omega) sh369 rfl rfl (Nat.le_of_ble_eq_true rfl) ⟨Nat.le_refl _, Nat.le_refl _⟩ ?_
    rintro _ _ V2 ⟨rfl, z2, rfl, q2⟩
    show Wp _ _ _ _ _ 49 _ [vI z2, vI x3, vR 386] _ _ _ _ _
    refine wp_if_eq (tgt := 82) dX12_findsStarting_49 rfl (fun c3 => ?_) (fun c3 => ?_)
    ·
      refine wp_aload_n dX12_findsStarting_82 rfl rfl ?_
      refine wp_getR (b := 386) dX12_findsStarting_83 fX12_109 rfl sh369 (by decide) rfl ?_
      refine wp_iload_n dX12_findsStarting_86 rfl rfl ?_
      refine wp_iald dX12_findsStarting_87 sh386 (q2.1 c3).1 ?_
      refine wp_iast dX12_findsStarting_88 sh386 (q2.1 c3).2.1 ?_
      refine wp_iinc dX12_findsStarting_89 rfl rfl ?_
      refine wp_goto (tgt := 21) dX12_findsStarting_92 rfl ?_
      exact (q2.1 c3).2.2
    ·
      refine wp_aload_n dX12_findsStarting_52 rfl rfl ?_
      refine wp_getR (b := 386) dX12_findsStarting_53 fX12_109 rfl sh369 (by decide) rfl ?_
      refine wp_iload dX12_findsStarting_56 rfl ?_
      refine wp_iald dX12_findsStarting_58 sh386 (q2.2 c3).1 ?_
      refine wp_iconst dX12_findsStarting_59 (by decide) ?_
      refine wp_iadd dX12_findsStarting_60 ?_
      refine wp_aload_n dX12_findsStarting_61 rfl rfl ?_
      refine wp_getR (b := 386) dX12_findsStarting_62 fX12_109 rfl sh369 (by decide) rfl ?_
      refine wp_iload_n dX12_findsStarting_65 rfl rfl ?_
      refine wp_iald dX12_findsStarting_66 sh386 (q2.2 c3).2.1 ?_
      refine wp_icmp_le (tgt := 82) dX12_findsStarting_67 rfl (fun c4 => ?_) (fun c4 => ?_)
      ·
        refine wp_aload_n dX12_findsStarting_82 rfl rfl ?_
        refine wp_getR (b := 386) dX12_findsStarting_83 fX12_109 rfl sh369 (by decide) rfl ?_
        refine wp_iload_n dX12_findsStarting_86 rfl rfl ?_
        refine wp_iald dX12_findsStarting_87 sh386 ((q2.2 c3).2.2.1 c4).1 ?_
        refine wp_iast dX12_findsStarting_88 sh386 ((q2.2 c3).2.2.1 c4).2.1 ?_
        refine wp_iinc dX12_findsStarting_89 rfl rfl ?_
        refine wp_goto (tgt := 21) dX12_findsStarting_92 rfl ?_
        exact ((q2.2 c3).2.2.1 c4).2.2
      ·
        refine wp_aload_n dX12_findsStarting_70 rfl rfl ?_
        refine wp_getR (b := 386) dX12_findsStarting_71 fX12_109 rfl sh369 (by decide) rfl ?_
        refine wp_iload dX12_findsStarting_74 rfl ?_
        refine wp_iald dX12_findsStarting_76 sh386 ((q2.2 c3).2.2.2 c4).1 ?_
        refine wp_iconst dX12_findsStarting_77 (by decide) ?_
        refine wp_iadd dX12_findsStarting_78 ?_
        refine wp_goto (tgt := 88) dX12_findsStarting_79 rfl ?_
        refine wp_iast dX12_findsStarting_88 sh386 ((q2.2 c3).2.2.2 c4).2.1 ?_
        refine wp_iinc dX12_findsStarting_89 rfl rfl ?_
        refine wp_goto (tgt := 21) dX12_findsStarting_92 rfl ?_
        exact ((q2.2 c3).2.2.2 c4).2.2
set_option maxHeartbeats 4000000 in
set_option maxRecDepth 10000 in
theorem sX12_findsLongs {K : KK} {d : Nat} {V : Mem} {Q : Option AV → Mem → Prop}  (h : Wf K (d + 1) mX12_findsLongs 2 [some (vR 369), some (vI 0), none, none] [] V Q) : Mf K (d + 1) mX12_findsLongs [vR 369] V Q := by
  refine Mt.of2 (L := [some (vR 369), none, none, none]) pnX12 rfl rfl ?_
  refine wp_iconst dX12_findsLongs_0 (by decide) ?_
  refine wp_istore_n dX12_findsLongs_1 rfl (by decide) rfl ?_
  exact h
set_option maxHeartbeats 4000000 in
set_option maxRecDepth 10000 in
theorem sX12_findsLongs_2 {K : KK} {d : Nat} {V : Mem} {Q : Option AV → Mem → Prop} (x1 : Int) (h : (((V 369 23) < x1 → Q none V) ∧ (¬ ((V 369 23) < x1) → Mf K d mX12_findsEnding [vR 369, vI x1, vI (V 369 23)] V (fun r V2 => r = none ∧ (((0 : Int) ≤ (w32 ((w32 (21 * x1)) + x1)) ∧ (w32 ((w32 (21 * x1)) + x1)) < (441 : Nat)) ∧ Wf K (d + 1) mX12_findsLongs 35 [some (vR 369), some (vI x1), some (vI (w32 (x1 + 1))), none] [] (upm V2 384 (Int.toNat (w32 ((w32 (21 * x1)) + x1))) 0) Q))))) : Wf K (d + 1) mX12_findsLongs 2 [some (vR 369), some (vI x1), none, none] [] V Q := by
  refine wp_iload_n dX12_findsLongs_2 rfl rfl ?_
  refine wp_aload_n dX12_findsLongs_3 rfl rfl ?_
  refine wp_getI dX12_findsLongs_4 fX12_304 rfl sh369 (by decide) ?_
  refine wp_icmp_gt (tgt := 99) dX12_findsLongs_7 rfl (fun c1 => ?_) (fun c1 => ?_)
  ·
    exact wp_return dX12_findsLongs_99 rfl ⟨rfl, rfl⟩ ⟨rfl, (h.1 c1)⟩
  ·
    refine wp_aload_n dX12_findsLongs_10 rfl rfl ?_
    refine wp_iload_n dX12_findsLongs_11 rfl rfl ?_
    refine wp_aload_n dX12_findsLongs_12 rfl rfl ?_
    refine wp_getI dX12_findsLongs_13 fX12_304 rfl sh369 (by decide) ?_
    refine wp_callV (S := []) (as := [vI x1, vI (V 369 23)]) dX12_findsLongs_16 lX12_318 ((h.2 c1)) (by omega) sh369 rfl rfl (Nat.le_of_ble_eq_true rfl) ⟨Nat.le_refl _, Nat.le_refl _⟩ ?_
    rintro _ _ V2 ⟨rfl, rfl, q2⟩
    show Wp _ _ _ _ _ 19 _ [] _ _ _ _ _
    refine wp_aload_n dX12_findsLongs_19 rfl rfl ?_
    refine wp_getR (b := 384) dX12_findsLongs_20 fX12_103 rfl sh369 (by decide) rfl ?_
    refine wp_bipush dX12_findsLongs_23 (by decide) ?_
    refine wp_iload_n dX12_findsLongs_25 rfl rfl ?_
    refine wp_imul dX12_findsLongs_26 ?_
    refine wp_iload_n dX12_findsLongs_27 rfl rfl ?_
    refine wp_iadd dX12_findsLongs_28 ?_
    refine wp_iconst dX12_findsLongs_29 (by decide) ?_
    refine wp_iast dX12_findsLongs_30 sh384 q2.1 ?_
    refine wp_iload_n dX12_findsLongs_31 rfl rfl ?_
    refine wp_iconst dX12_findsLongs_32 (by decide) ?_
    refine wp_iadd dX12_findsLongs_33 ?_
    refine wp_istore_n dX12_findsLongs_34 rfl (by decide) rfl ?_
    exact q2.2
set_option maxHeartbeats 4000000 in
set_option maxRecDepth 10000 in
theorem sX12_findsLongs_35 {K : KK} {d : Nat} {V : Mem} {Q : Option AV → Mem → Prop} (x1 : Int) (x2 : Int) (h : (((V 369 23) < x2 → Wf K (d + 1) mX12_findsLongs 2 [some (vR 369), some (vI (w32 (x1 + 1))), none, none] [] V Q) ∧ (¬ ((V 369 23) < x2) → (((0 : Int) ≤ (w32 ((w32 (21 * x1)) + (w32 (x2 - 1)))) ∧ (w32 ((w32 (21 * x1)) + (w32 (x2 - 1)))) < (441 : Nat)) ∧ (((0 : Int) ≤ (w32 (x2 - 1)) ∧ (w32 (x2 - 1)) < (20 : Nat)) ∧ (((V 385 (Int.toNat (w32 (x2 - 1)))) ≤ (V 384 (Int.toNat (w32 ((w32 (21 * x1)) + (w32 (x2 - 1)))))) → (((0 : Int) ≤ (w32 ((w32 (21 * x1)) + x2)) ∧ (w32 ((w32 (21 * x1)) + x2)) < (441 : Nat)) ∧ Wf K (d + 1) mX12_findsLongs 35 [some (vR 369), some (vI x1), some (vI (w32 (x2 + 1))), none] [] (upm V 384 (Int.toNat (w32 ((w32 (21 * x1)) + x2))) (V 384 (Int.toNat (w32 ((w32 (21 * x1)) + (w32 (x2 - 1))))))) Q)) ∧ (¬ ((V 385 (Int.toNat (w32 (x2 - 1)))) ≤ (V 384 (Int.toNat (w32 ((w32 (21 * x1)) + (w32 (x2 - 1))))))) → (((0 : Int) ≤ (w32 (x2 - 1)) ∧ (w32 (x2 - 1)) < (20 : Nat)) ∧ (((0 : Int) ≤ (w32 ((w32 (21 * x1)) + x2)) ∧ (w32 ((w32 (21 * x1)) + x2)) < (441 : Nat)) ∧ Wf K (d + 1) mX12_findsLongs 35 [some (vR 369), some (vI x1), some (vI (w32 (x2 + 1))), none] [] (upm V 384 (Int.toNat (w32 ((w32 (21 * x1)) + x2))) (V 385 (Int.toNat (w32 (x2 - 1))))) Q))))))))) : Wf K (d + 1) mX12_findsLongs 35 [some (vR 369), some (vI x1), some (vI x2), none] [] V Q := by
  refine wp_iload_n dX12_findsLongs_35 rfl rfl ?_
  refine wp_aload_n dX12_findsLongs_36 rfl rfl ?_
  refine wp_getI dX12_findsLongs_37 fX12_304 rfl sh369 (by decide) ?_
  refine wp_icmp_gt (tgt := 93) dX12_findsLongs_40 rfl (fun c1 => ?_) (fun c1 => ?_)
  ·
    refine wp_iinc dX12_findsLongs_93 rfl rfl ?_
    refine wp_goto (tgt := 2) dX12_findsLongs_96 rfl ?_
    exact wp_loc (L2 := [some (vR 369), some (vI (w32 (x1 + 1))), none, none]) ⟨rfl, ⟨rfl, trivial⟩⟩ (h.1 c1)
  ·
    refine wp_aload_n dX12_findsLongs_43 rfl rfl ?_
    refine wp_iload_n dX12_findsLongs_44 rfl rfl ?_
    refine wp_iload_n dX12_findsLongs_45 rfl rfl ?_
    refine wp_iconst dX12_findsLongs_46 (by decide) ?_
    refine wp_isub dX12_findsLongs_47 ?_
    refine wp_inlV (d' := d) (S := []) (as := [vI x1, vI (w32 (x2 - 1))]) dX12_findsLongs_48 lX12_321 (by omega) sh369 rfl rfl (Nat.le_of_ble_eq_true rfl) ⟨Nat.le_refl _, Nat.le_refl _⟩ (Mt.of2 (L := [some (vR 369), some (vI x1), some (vI (w32 (x2 - 1)))]) pnX12 rfl rfl ?_)
    refine wp_aload_n dX12_longAt_0 rfl rfl ?_
    refine wp_getR (b := 384) dX12_longAt_1 fX12_103 rfl sh369 (by decide) rfl ?_
    refine wp_bipush dX12_longAt_4 (by decide) ?_
    refine wp_iload_n dX12_longAt_6 rfl rfl ?_
    refine wp_imul dX12_longAt_7 ?_
    refine wp_iload_n dX12_longAt_8 rfl rfl ?_
    refine wp_iadd dX12_longAt_9 ?_
    refine wp_iald dX12_longAt_10 sh384 (h.2 c1).1 ?_
    refine wp_ireturn dX12_longAt_11 rfl ⟨rfl, rfl⟩ ?_
    show Wp _ _ _ _ _ 51 _ [vI (V 384 (Int.toNat (w32 ((w32 (21 * x1)) + (w32 (x2 - 1))))))] _ _ _ _ _
    refine wp_istore_n dX12_findsLongs_51 rfl (by decide) rfl ?_
    refine wp_aload_n dX12_findsLongs_52 rfl rfl ?_
    refine wp_getR (b := 384) dX12_findsLongs_53 fX12_103 rfl sh369 (by decide) rfl ?_
    refine wp_bipush dX12_findsLongs_56 (by decide) ?_
    refine wp_iload_n dX12_findsLongs_58 rfl rfl ?_
    refine wp_imul dX12_findsLongs_59 ?_
    refine wp_iload_n dX12_findsLongs_60 rfl rfl ?_
    refine wp_iadd dX12_findsLongs_61 ?_
    refine wp_aload_n dX12_findsLongs_62 rfl rfl ?_
    refine wp_getR (b := 385) dX12_findsLongs_63 fX12_106 rfl sh369 (by decide) rfl ?_
    refine wp_iload_n dX12_findsLongs_66 rfl rfl ?_
    refine wp_iconst dX12_findsLongs_67 (by decide) ?_
    refine wp_isub dX12_findsLongs_68 ?_
    refine wp_iald dX12_findsLongs_69 sh385 (h.2 c1).2.1 ?_
    refine wp_iload_n dX12_findsLongs_70 rfl rfl ?_
    refine wp_icmp_le (tgt := 85) dX12_findsLongs_71 rfl (fun c2 => ?_) (fun c2 => ?_)
    ·
      refine wp_iload_n dX12_findsLongs_85 rfl rfl ?_
      refine wp_iast dX12_findsLongs_86 sh384 ((h.2 c1).2.2.1 c2).1 ?_
      refine wp_iinc dX12_findsLongs_87 rfl rfl ?_
      refine wp_goto (tgt := 35) dX12_findsLongs_90 rfl ?_
      exact wp_loc (L2 := [some (vR 369), some (vI x1), some (vI (w32 (x2 + 1))), none]) ⟨rfl, ⟨rfl, ⟨rfl, trivial⟩⟩⟩ ((h.2 c1).2.2.1 c2).2
    ·
      refine wp_aload_n dX12_findsLongs_74 rfl rfl ?_
      refine wp_getR (b := 385) dX12_findsLongs_75 fX12_106 rfl sh369 (by decide) rfl ?_
      refine wp_iload_n dX12_findsLongs_78 rfl rfl ?_
      refine wp_iconst dX12_findsLongs_79 (by decide) ?_
      refine wp_isub dX12_findsLongs_80 ?_
      refine wp_iald dX12_findsLongs_81 sh385 ((h.2 c1).2.2.2 c2).1 ?_
      refine wp_goto (tgt := 86) dX12_findsLongs_82 rfl ?_
      refine wp_iast dX12_findsLongs_86 sh384 ((h.2 c1).2.2.2 c2).2.1 ?_
      refine wp_iinc dX12_findsLongs_87 rfl rfl ?_
      refine wp_goto (tgt := 35) dX12_findsLongs_90 rfl ?_
      exact wp_loc (L2 := [some (vR 369), some (vI x1), some (vI (w32 (x2 + 1))), none]) ⟨rfl, ⟨rfl, ⟨rfl, trivial⟩⟩⟩ ((h.2 c1).2.2.2 c2).2.2
set_option maxHeartbeats 4000000 in
set_option maxRecDepth 10000 in
theorem sX12_laysAll {K : KK} {d : Nat} {V : Mem} {Q : Option AV → Mem → Prop} (x1 : Int) (h : Mf K d mX12_laysRow [vR 369, vI x1] V (fun r V1 => r = none ∧ Mf K d mX12_findsLongs [vR 369] V1 (fun r V2 => r = none ∧ Q none V2))) : Mf K (d + 1) mX12_laysAll [vR 369, vI x1] V Q := by
  refine Mt.of2 (L := [some (vR 369), some (vI x1)]) pnX12 rfl rfl ?_
  refine wp_aload_n dX12_laysAll_0 rfl rfl ?_
  refine wp_iload_n dX12_laysAll_1 rfl rfl ?_
  refine wp_callV (S := []) (as := [vI x1]) dX12_laysAll_2 lX12_324 (h) (by omega) sh369 rfl rfl (Nat.le_of_ble_eq_true rfl) ⟨Nat.le_refl _, Nat.le_refl _⟩ ?_
  rintro _ _ V1 ⟨rfl, rfl, q1⟩
  show Wp _ _ _ _ _ 5 _ [] _ _ _ _ _
  refine wp_aload_n dX12_laysAll_5 rfl rfl ?_
  refine wp_callV (S := []) (as := []) dX12_laysAll_6 lX12_327 (q1) (by omega) sh369 rfl rfl (Nat.le_of_ble_eq_true rfl) ⟨Nat.le_refl _, Nat.le_refl _⟩ ?_
  rintro _ _ V2 ⟨rfl, rfl, q2⟩
  show Wp _ _ _ _ _ 9 _ [] _ _ _ _ _
  exact wp_return dX12_laysAll_9 rfl ⟨rfl, rfl⟩ ⟨rfl, q2⟩
set_option maxHeartbeats 4000000 in
set_option maxRecDepth 10000 in
theorem sX12_chain {K : KK} {d : Nat} {V : Mem} {Q : Option AV → Mem → Prop} (x1 : Int) (x2 : Int) (x3 : Int) (h : Mf K (d + 1) mX12_isWindow [vR 369, vI x1, vI x2, vI x3] (upm V 369 0 0) (fun r V1 => ∃ z1, r = some (vI z1) ∧ ((¬ z1 = 0 → Mf K d mX12_laysRow [vR 369, vI x1] V1 (fun r V3 => r = none ∧ Mf K d mX12_findsLongs [vR 369] V3 (fun r V4 => r = none ∧ (((0 : Int) ≤ (w32 ((w32 (21 * x2)) + x3)) ∧ (w32 ((w32 (21 * x2)) + x3)) < (441 : Nat)) ∧ Q (some (vI (V4 384 (Int.toNat (w32 ((w32 (21 * x2)) + x3)))))) V4)))) ∧ (z1 = 0 → Q (some (vI (-1))) V1)))) : Mf K (d + 2) mX12_chain [vR 369, vI x1, vI x2, vI x3] V Q := by
  refine Mt.of2 (L := [some (vR 369), some (vI x1), some (vI x2), some (vI x3)]) pnX12 rfl rfl ?_
  refine wp_aload_n dX12_chain_0 rfl rfl ?_
  refine wp_iconst dX12_chain_1 (by decide) ?_
  refine wp_putI dX12_chain_2 fwX12_1 rfl sh369 (by decide) ?_
  refine wp_aload_n dX12_chain_5 rfl rfl ?_
  refine wp_iload_n dX12_chain_6 rfl rfl ?_
  refine wp_iload_n dX12_chain_7 rfl rfl ?_
  refine wp_iload_n dX12_chain_8 rfl rfl ?_
  refine wp_callV (S := []) (as := [vI x1, vI x2, vI x3]) dX12_chain_9 lX12_330 (h) (by omega) sh369 rfl rfl (Nat.le_of_ble_eq_true rfl) ⟨Nat.le_refl _, Nat.le_refl _⟩ ?_
  rintro _ _ V1 ⟨rfl, z1, rfl, q1⟩
  show Wp _ _ _ _ _ 12 _ [vI z1] _ _ _ _ _
  refine wp_if_ne (tgt := 17) dX12_chain_12 rfl (fun c2 => ?_) (fun c2 => ?_)
  ·
    refine wp_aload_n dX12_chain_17 rfl rfl ?_
    refine wp_iload_n dX12_chain_18 rfl rfl ?_
    refine wp_inlV (d' := (d + 1)) (S := []) (as := [vI x1]) dX12_chain_19 lX12_334 (by omega) sh369 rfl rfl (Nat.le_of_ble_eq_true rfl) ⟨Nat.le_refl _, Nat.le_refl _⟩ (Mt.of2 (L := [some (vR 369), some (vI x1)]) pnX12 rfl rfl ?_)
    refine wp_aload_n dX12_laysAll_0 rfl rfl ?_
    refine wp_iload_n dX12_laysAll_1 rfl rfl ?_
    refine wp_callV (S := []) (as := [vI x1]) dX12_laysAll_2 lX12_324 ((q1.1 c2)) (by omega) sh369 rfl rfl (Nat.le_of_ble_eq_true rfl) ⟨Nat.le_refl _, Nat.le_refl _⟩ ?_
    rintro _ _ V3 ⟨rfl, rfl, q3⟩
    show Wp _ _ _ _ _ 5 _ [] _ _ _ _ _
    refine wp_aload_n dX12_laysAll_5 rfl rfl ?_
    refine wp_callV (S := []) (as := []) dX12_laysAll_6 lX12_327 (q3) (by omega) sh369 rfl rfl (Nat.le_of_ble_eq_true rfl) ⟨Nat.le_refl _, Nat.le_refl _⟩ ?_
    rintro _ _ V4 ⟨rfl, rfl, q4⟩
    show Wp _ _ _ _ _ 9 _ [] _ _ _ _ _
    refine wp_return dX12_laysAll_9 rfl ⟨rfl, rfl⟩ ?_
    show Wp _ _ _ _ _ 22 _ [] _ _ _ _ _
    refine wp_aload_n dX12_chain_22 rfl rfl ?_
    refine wp_iload_n dX12_chain_23 rfl rfl ?_
    refine wp_iload_n dX12_chain_24 rfl rfl ?_
    refine wp_inlV (d' := (d + 1)) (S := []) (as := [vI x2, vI x3]) dX12_chain_25 lX12_321 (by omega) sh369 rfl rfl (Nat.le_of_ble_eq_true rfl) ⟨Nat.le_refl _, Nat.le_refl _⟩ (Mt.of2 (L := [some (vR 369), some (vI x2), some (vI x3)]) pnX12 rfl rfl ?_)
    refine wp_aload_n dX12_longAt_0 rfl rfl ?_
    refine wp_getR (b := 384) dX12_longAt_1 fX12_103 rfl sh369 (by decide) rfl ?_
    refine wp_bipush dX12_longAt_4 (by decide) ?_
    refine wp_iload_n dX12_longAt_6 rfl rfl ?_
    refine wp_imul dX12_longAt_7 ?_
    refine wp_iload_n dX12_longAt_8 rfl rfl ?_
    refine wp_iadd dX12_longAt_9 ?_
    refine wp_iald dX12_longAt_10 sh384 q4.1 ?_
    refine wp_ireturn dX12_longAt_11 rfl ⟨rfl, rfl⟩ ?_
    show Wp _ _ _ _ _ 28 _ [vI (V4 384 (Int.toNat (w32 ((w32 (21 * x2)) + x3))))] _ _ _ _ _
    exact wp_ireturn dX12_chain_28 rfl ⟨rfl, rfl⟩ ⟨rfl, q4.2⟩
  ·
    refine wp_iconst dX12_chain_15 (by decide) ?_
    exact wp_ireturn dX12_chain_16 rfl ⟨rfl, rfl⟩ ⟨rfl, (q1.2 c2)⟩
set_option maxHeartbeats 4000000 in
set_option maxRecDepth 10000 in
theorem sX12_pick {K : KK} {d : Nat} {V : Mem} {Q : Option AV → Mem → Prop} (x1 : Int) (x2 : Int) (x3 : Int) (x4 : Int) (h : Mf K (d + 1) mX12_isWindow [vR 369, vI x1, vI x2, vI x3] (upm V 369 0 0) (fun r V1 => ∃ z1, r = some (vI z1) ∧ ((¬ z1 = 0 → Mf K d mX12_laysRow [vR 369, vI x1] V1 (fun r V3 => r = none ∧ Mf K d mX12_findsLongs [vR 369] V3 (fun r V4 => r = none ∧ Mf K (d + 1) mX12_findsStarting [vR 369, vI x2, vI x3] V4 (fun r V5 => r = none ∧ (((0 : Int) ≤ (w32 ((w32 (21 * x2)) + x3)) ∧ (w32 ((w32 (21 * x2)) + x3)) < (441 : Nat)) ∧ Wf K (d + 2) mX12_pick 42 [some (vR 369), none, some (vI x2), some (vI x3), some (vI x4), some (vI (V5 384 (Int.toNat (w32 ((w32 (21 * x2)) + x3))))), some (vI (-1)), some (vI x2), none] [] V5 Q))))) ∧ (z1 = 0 → Q (some (vI (-1))) V1)))) : Mf K (d + 2) mX12_pick [vR 369, vI x1, vI x2, vI x3, vI x4] V Q := by
  refine Mt.of2 (L := [some (vR 369), some (vI x1), some (vI x2), some (vI x3), some (vI x4), none, none, none, none]) pnX12 rfl rfl ?_
  refine wp_aload_n dX12_pick_0 rfl rfl ?_
  refine wp_iconst dX12_pick_1 (by decide) ?_
  refine wp_putI dX12_pick_2 fwX12_1 rfl sh369 (by decide) ?_
  refine wp_aload_n dX12_pick_5 rfl rfl ?_
  refine wp_iload_n dX12_pick_6 rfl rfl ?_
  refine wp_iload_n dX12_pick_7 rfl rfl ?_
  refine wp_iload_n dX12_pick_8 rfl rfl ?_
  refine wp_callV (S := []) (as := [vI x1, vI x2, vI x3]) dX12_pick_9 lX12_330 (h) (by omega) sh369 rfl rfl (Nat.le_of_ble_eq_true rfl) ⟨Nat.le_refl _, Nat.le_refl _⟩ ?_
  rintro _ _ V1 ⟨rfl, z1, rfl, q1⟩
  show Wp _ _ _ _ _ 12 _ [vI z1] _ _ _ _ _
  refine wp_if_ne (tgt := 17) dX12_pick_12 rfl (fun c2 => ?_) (fun c2 => ?_)
  ·
    refine wp_aload_n dX12_pick_17 rfl rfl ?_
    refine wp_iload_n dX12_pick_18 rfl rfl ?_
    refine wp_inlV (d' := (d + 1)) (S := []) (as := [vI x1]) dX12_pick_19 lX12_334 (by omega) sh369 rfl rfl (Nat.le_of_ble_eq_true rfl) ⟨Nat.le_refl _, Nat.le_refl _⟩ (Mt.of2 (L := [some (vR 369), some (vI x1)]) pnX12 rfl rfl ?_)
    refine wp_aload_n dX12_laysAll_0 rfl rfl ?_
    refine wp_iload_n dX12_laysAll_1 rfl rfl ?_
    refine wp_callV (S := []) (as := [vI x1]) dX12_laysAll_2 lX12_324 ((q1.1 c2)) (by omega) sh369 rfl rfl (Nat.le_of_ble_eq_true rfl) ⟨Nat.le_refl _, Nat.le_refl _⟩ ?_
    rintro _ _ V3 ⟨rfl, rfl, q3⟩
    show Wp _ _ _ _ _ 5 _ [] _ _ _ _ _
    refine wp_aload_n dX12_laysAll_5 rfl rfl ?_
    refine wp_callV (S := []) (as := []) dX12_laysAll_6 lX12_327 (q3) (by omega) sh369 rfl rfl (Nat.le_of_ble_eq_true rfl) ⟨Nat.le_refl _, Nat.le_refl _⟩ ?_
    rintro _ _ V4 ⟨rfl, rfl, q4⟩
    show Wp _ _ _ _ _ 9 _ [] _ _ _ _ _
    refine wp_return dX12_laysAll_9 rfl ⟨rfl, rfl⟩ ?_
    show Wp _ _ _ _ _ 22 _ [] _ _ _ _ _
    refine wp_aload_n dX12_pick_22 rfl rfl ?_
    refine wp_iload_n dX12_pick_23 rfl rfl ?_
    refine wp_iload_n dX12_pick_24 rfl rfl ?_
    refine wp_callV (S := []) (as := [vI x2, vI x3]) dX12_pick_25 lX12_337 (q4) (by omega) sh369 rfl rfl (Nat.le_of_ble_eq_true rfl) ⟨Nat.le_refl _, Nat.le_refl _⟩ ?_
    rintro _ _ V5 ⟨rfl, rfl, q5⟩
    show Wp _ _ _ _ _ 28 _ [] _ _ _ _ _
    refine wp_aload_n dX12_pick_28 rfl rfl ?_
    refine wp_iload_n dX12_pick_29 rfl rfl ?_
    refine wp_iload_n dX12_pick_30 rfl rfl ?_
    refine wp_inlV (d' := (d + 1)) (S := []) (as := [vI x2, vI x3]) dX12_pick_31 lX12_321 (by omega) sh369 rfl rfl (Nat.le_of_ble_eq_true rfl) ⟨Nat.le_refl _, Nat.le_refl _⟩ (Mt.of2 (L := [some (vR 369), some (vI x2), some (vI x3)]) pnX12 rfl rfl ?_)
    refine wp_aload_n dX12_longAt_0 rfl rfl ?_
    refine wp_getR (b := 384) dX12_longAt_1 fX12_103 rfl sh369 (by decide) rfl ?_
    refine wp_bipush dX12_longAt_4 (by decide) ?_
    refine wp_iload_n dX12_longAt_6 rfl rfl ?_
    refine wp_imul dX12_longAt_7 ?_
    refine wp_iload_n dX12_longAt_8 rfl rfl ?_
    refine wp_iadd dX12_longAt_9 ?_
    refine wp_iald dX12_longAt_10 sh384 q5.1 ?_
    refine wp_ireturn dX12_longAt_11 rfl ⟨rfl, rfl⟩ ?_
    show Wp _ _ _ _ _ 34 _ [vI (V5 384 (Int.toNat (w32 ((w32 (21 * x2)) + x3))))] _ _ _ _ _
    refine wp_istore dX12_pick_34 (by decide) rfl ?_
    refine wp_iconst dX12_pick_36 (by decide) ?_
    refine wp_istore dX12_pick_37 (by decide) rfl ?_
    refine wp_iload_n dX12_pick_39 rfl rfl ?_
    refine wp_istore dX12_pick_40 (by decide) rfl ?_
    exact wp_loc (L2 := [some (vR 369), none, some (vI x2), some (vI x3), some (vI x4), some (vI (V5 384 (Int.toNat (w32 ((w32 (21 * x2)) + x3))))), some (vI (-1)), some (vI x2), none]) ⟨rfl, ⟨rfl, ⟨rfl, ⟨rfl, ⟨rfl, ⟨rfl, ⟨rfl, trivial⟩⟩⟩⟩⟩⟩⟩ q5.2
  ·
    refine wp_iconst dX12_pick_15 (by decide) ?_
    exact wp_ireturn dX12_pick_16 rfl ⟨rfl, rfl⟩ ⟨rfl, (q1.2 c2)⟩
set_option maxHeartbeats 4000000 in
set_option maxRecDepth 10000 in
theorem sX12_pick_42 {K : KK} {d : Nat} {V : Mem} {Q : Option AV → Mem → Prop} (x2 : Int) (x3 : Int) (x4 : Int) (x5 : Int) (x6 : Int) (x7 : Int) (h : ((x3 ≤ x7 → Q (some (vI (-1))) V) ∧ (¬ (x3 ≤ x7) → ((x5 ≤ 0 → Wf K (d + 2) mX12_pick 95 [some (vR 369), none, some (vI x2), some (vI x3), some (vI x4), some (vI x5), some (vI x6), some (vI x7), none] [] V Q) ∧ (¬ (x5 ≤ 0) → (((0 : Int) ≤ x7 ∧ x7 < (20 : Nat)) ∧ ((¬ (V 386 (Int.toNat x7)) = x5 → Wf K (d + 2) mX12_pick 95 [some (vR 369), none, some (vI x2), some (vI x3), some (vI x4), some (vI x5), some (vI x6), some (vI x7), none] [] V Q) ∧ ((V 386 (Int.toNat x7)) = x5 → ((x6 < 0 → Wf K (d + 2) mX12_pick 91 [some (vR 369), none, some (vI x2), some (vI x3), some (vI x4), some (vI x5), some (vI x6), some (vI x7), none] [] V Q) ∧ (¬ (x6 < 0) → (((0 : Int) ≤ x7 ∧ x7 < (20 : Nat)) ∧ (((0 : Int) ≤ x6 ∧ x6 < (20 : Nat)) ∧ Mf K (d + 1) mX12_follows [vR 369, vI (V 383 (Int.toNat x7)), vI (V 383 (Int.toNat x6))] V (fun r V5 => ∃ z5, r = some (vI z5) ∧ ((z5 = 0 → Wf K (d + 2) mX12_pick 95 [some (vR 369), none, some (vI x2), some (vI x3), some (vI x4), some (vI x5), some (vI x6), some (vI x7), none] [] V5 Q) ∧ (¬ (z5 = 0) → Wf K (d + 2) mX12_pick 91 [some (vR 369), none, some (vI x2), some (vI x3), some (vI x4), some (vI x5), some (vI x6), some (vI x7), none] [] V5 Q))))))))))))))) : Wf K (d + 2) mX12_pick 42 [some (vR 369), none, some (vI x2), some (vI x3), some (vI x4), some (vI x5), some (vI x6), some (vI x7), none] [] V Q := by
  refine wp_iload dX12_pick_42 rfl ?_
  refine wp_iload_n dX12_pick_44 rfl rfl ?_
  refine wp_icmp_ge (tgt := 155) dX12_pick_45 rfl (fun c1 => ?_) (fun c1 => ?_)
  ·
    refine wp_iconst dX12_pick_155 (by decide) ?_
    exact wp_ireturn dX12_pick_156 rfl ⟨rfl, rfl⟩ ⟨rfl, (h.1 c1)⟩
  ·
    refine wp_iload dX12_pick_48 rfl ?_
    refine wp_if_le (tgt := 95) dX12_pick_50 rfl (fun c2 => ?_) (fun c2 => ?_)
    ·
      exact ((h.2 c1).1 c2)
    ·
      refine wp_aload_n dX12_pick_53 rfl rfl ?_
      refine wp_getR (b := 386) dX12_pick_54 fX12_109 rfl sh369 (by decide) rfl ?_
      refine wp_iload dX12_pick_57 rfl ?_
      refine wp_iald dX12_pick_59 sh386 ((h.2 c1).2 c2).1 ?_
      refine wp_iload dX12_pick_60 rfl ?_
      refine wp_icmp_ne (tgt := 95) dX12_pick_62 rfl (fun c3 => ?_) (fun c3 => ?_)
      ·
        exact (((h.2 c1).2 c2).2.1 c3)
      ·
        refine wp_iload dX12_pick_65 rfl ?_
        refine wp_if_lt (tgt := 91) dX12_pick_67 rfl (fun c4 => ?_) (fun c4 => ?_)
        ·
          exact ((((h.2 c1).2 c2).2.2 c3).1 c4)
        ·
          refine wp_aload_n dX12_pick_70 rfl rfl ?_
          refine wp_aload_n dX12_pick_71 rfl rfl ?_
          refine wp_getR (b := 383) dX12_pick_72 fX12_100 rfl sh369 (by decide) rfl ?_
          refine wp_iload dX12_pick_75 rfl ?_
          refine wp_iald dX12_pick_77 sh383 ((((h.2 c1).2 c2).2.2 c3).2 c4).1 ?_
          refine wp_aload_n dX12_pick_78 rfl rfl ?_
          refine wp_getR (b := 383) dX12_pick_79 fX12_100 rfl sh369 (by decide) rfl ?_
          refine wp_iload dX12_pick_82 rfl ?_
          refine wp_iald dX12_pick_84 sh383 ((((h.2 c1).2 c2).2.2 c3).2 c4).2.1 ?_
          refine wp_callV (S := []) (as := [vI (V 383 (Int.toNat x7)), vI (V 383 (Int.toNat x6))]) dX12_pick_85 lX12_314 (((((h.2 c1).2 c2).2.2 c3).2 c4).2.2) (by omega) sh369 rfl rfl (Nat.le_of_ble_eq_true rfl) ⟨Nat.le_refl _, Nat.le_refl _⟩ ?_
          rintro _ _ V5 ⟨rfl, z5, rfl, q5⟩
          show Wp _ _ _ _ _ 88 _ [vI z5] _ _ _ _ _
          refine wp_if_eq (tgt := 95) dX12_pick_88 rfl (fun c6 => ?_) (fun c6 => ?_)
          ·
            exact (q5.1 c6)
          ·
            exact (q5.2 c6)
set_option maxHeartbeats 4000000 in
set_option maxRecDepth 10000 in
theorem sX12_pick_95 {K : KK} {d : Nat} {V : Mem} {Q : Option AV → Mem → Prop} (x2 : Int) (x3 : Int) (x4 : Int) (x5 : Int) (x6 : Int) (x7 : Int) (h : Wf K (d + 2) mX12_pick 96 [some (vR 369), none, some (vI x2), some (vI x3), some (vI x4), some (vI x5), some (vI x6), some (vI x7), none] [vI 0] V Q) : Wf K (d + 2) mX12_pick 95 [some (vR 369), none, some (vI x2), some (vI x3), some (vI x4), some (vI x5), some (vI x6), some (vI x7), none] [] V Q := by
  refine wp_iconst dX12_pick_95 (by decide) ?_
  exact h
set_option maxHeartbeats 4000000 in
set_option maxRecDepth 10000 in
theorem sX12_pick_91 {K : KK} {d : Nat} {V : Mem} {Q : Option AV → Mem → Prop} (x2 : Int) (x3 : Int) (x4 : Int) (x5 : Int) (x6 : Int) (x7 : Int) (h : Wf K (d + 2) mX12_pick 96 [some (vR 369), none, some (vI x2), some (vI x3), some (vI x4), some (vI x5), some (vI x6), some (vI x7), none] [vI 1] V Q) : Wf K (d + 2) mX12_pick 91 [some (vR 369), none, some (vI x2), some (vI x3), some (vI x4), some (vI x5), some (vI x6), some (vI x7), none] [] V Q := by
  refine wp_iconst dX12_pick_91 (by decide) ?_
  refine wp_goto (tgt := 96) dX12_pick_92 rfl ?_
  exact h
set_option maxHeartbeats 4000000 in
set_option maxRecDepth 10000 in
theorem sX12_pick_96 {K : KK} {d : Nat} {V : Mem} {Q : Option AV → Mem → Prop} (x2 : Int) (x3 : Int) (x4 : Int) (x5 : Int) (x6 : Int) (x7 : Int) (s0 : Int) (h : ((s0 = 0 → Wf K (d + 2) mX12_pick 120 [some (vR 369), none, some (vI x2), some (vI x3), some (vI x4), some (vI x5), some (vI x6), some (vI x7), some (vI s0)] [] V Q) ∧ (¬ (s0 = 0) → (((0 : Int) ≤ (w32 ((w32 (21 * x2)) + x3)) ∧ (w32 ((w32 (21 * x2)) + x3)) < (441 : Nat)) ∧ ((¬ x4 = (w32 ((V 384 (Int.toNat (w32 ((w32 (21 * x2)) + x3)))) - x5)) → Wf K (d + 2) mX12_pick 120 [some (vR 369), none, some (vI x2), some (vI x3), some (vI x4), some (vI x5), some (vI x6), some (vI x7), some (vI s0)] [] V Q) ∧ (x4 = (w32 ((V 384 (Int.toNat (w32 ((w32 (21 * x2)) + x3)))) - x5)) → Q (some (vI x7)) V)))))) : Wf K (d + 2) mX12_pick 96 [some (vR 369), none, some (vI x2), some (vI x3), some (vI x4), some (vI x5), some (vI x6), some (vI x7), none] [vI s0] V Q := by
  refine wp_istore dX12_pick_96 (by decide) rfl ?_
  refine wp_iload dX12_pick_98 rfl ?_
  refine wp_if_eq (tgt := 120) dX12_pick_100 rfl (fun c1 => ?_) (fun c1 => ?_)
  ·
    exact (h.1 c1)
  ·
    refine wp_iload dX12_pick_103 rfl ?_
    refine wp_aload_n dX12_pick_105 rfl rfl ?_
    refine wp_iload_n dX12_pick_106 rfl rfl ?_
    refine wp_iload_n dX12_pick_107 rfl rfl ?_
    refine wp_inlV (d' := (d + 1)) (S := [vI x4]) (as := [vI x2, vI x3]) dX12_pick_108 lX12_321 (by omega) sh369 rfl rfl (Nat.le_of_ble_eq_true rfl) ⟨Nat.le_refl _, Nat.le_refl _⟩ (Mt.of2 (L := [some (vR 369), some (vI x2), some (vI x3)]) pnX12 rfl rfl ?_)
    refine wp_aload_n dX12_longAt_0 rfl rfl ?_
    refine wp_getR (b := 384) dX12_longAt_1 fX12_103 rfl sh369 (by decide) rfl ?_
    refine wp_bipush dX12_longAt_4 (by decide) ?_
    refine wp_iload_n dX12_longAt_6 rfl rfl ?_
    refine wp_imul dX12_longAt_7 ?_
    refine wp_iload_n dX12_longAt_8 rfl rfl ?_
    refine wp_iadd dX12_longAt_9 ?_
    refine wp_iald dX12_longAt_10 sh384 (h.2 c1).1 ?_
    refine wp_ireturn dX12_longAt_11 rfl ⟨rfl, rfl⟩ ?_
    show Wp _ _ _ _ _ 111 _ [vI (V 384 (Int.toNat (w32 ((w32 (21 * x2)) + x3)))), vI x4] _ _ _ _ _
    refine wp_iload dX12_pick_111 rfl ?_
    refine wp_isub dX12_pick_113 ?_
    refine wp_icmp_ne (tgt := 120) dX12_pick_114 rfl (fun c2 => ?_) (fun c2 => ?_)
    ·
      exact ((h.2 c1).2.1 c2)
    ·
      refine wp_iload dX12_pick_117 rfl ?_
      exact wp_ireturn dX12_pick_119 rfl ⟨rfl, rfl⟩ ⟨rfl, ((h.2 c1).2.2 c2)⟩
set_option maxHeartbeats 4000000 in
set_option maxRecDepth 10000 in
theorem sX12_pick_120 {K : KK} {d : Nat} {V : Mem} {Q : Option AV → Mem → Prop} (x2 : Int) (x3 : Int) (x4 : Int) (x5 : Int) (x6 : Int) (x7 : Int) (x8 : Int) (h : ((x8 = 0 → Wf K (d + 2) mX12_pick 132 [some (vR 369), none, some (vI x2), some (vI x3), some (vI x4), some (vI x5), none, some (vI x7), some (vI x8)] [vI x6] V Q) ∧ (¬ (x8 = 0) → Wf K (d + 2) mX12_pick 132 [some (vR 369), none, some (vI x2), some (vI x3), some (vI x4), some (vI x5), none, some (vI x7), some (vI x8)] [vI x7] V Q))) : Wf K (d + 2) mX12_pick 120 [some (vR 369), none, some (vI x2), some (vI x3), some (vI x4), some (vI x5), some (vI x6), some (vI x7), some (vI x8)] [] V Q := by
  refine wp_iload dX12_pick_120 rfl ?_
  refine wp_if_eq (tgt := 130) dX12_pick_122 rfl (fun c1 => ?_) (fun c1 => ?_)
  ·
    refine wp_iload dX12_pick_130 rfl ?_
    exact wp_loc (L2 := [some (vR 369), none, some (vI x2), some (vI x3), some (vI x4), some (vI x5), none, some (vI x7), some (vI x8)]) ⟨rfl, ⟨rfl, ⟨rfl, ⟨rfl, ⟨rfl, ⟨rfl, ⟨rfl, trivial⟩⟩⟩⟩⟩⟩⟩ (h.1 c1)
  ·
    refine wp_iload dX12_pick_125 rfl ?_
    refine wp_goto (tgt := 132) dX12_pick_127 rfl ?_
    exact wp_loc (L2 := [some (vR 369), none, some (vI x2), some (vI x3), some (vI x4), some (vI x5), none, some (vI x7), some (vI x8)]) ⟨rfl, ⟨rfl, ⟨rfl, ⟨rfl, ⟨rfl, ⟨rfl, ⟨rfl, trivial⟩⟩⟩⟩⟩⟩⟩ (h.2 c1)
set_option maxHeartbeats 4000000 in
set_option maxRecDepth 10000 in
theorem sX12_pick_132 {K : KK} {d : Nat} {V : Mem} {Q : Option AV → Mem → Prop} (x2 : Int) (x3 : Int) (x4 : Int) (x5 : Int) (x7 : Int) (x8 : Int) (s0 : Int) (h : ((x8 = 0 → Wf K (d + 2) mX12_pick 146 [some (vR 369), none, some (vI x2), some (vI x3), some (vI x4), none, some (vI s0), some (vI x7), none] [vI 0, vI x5] V Q) ∧ (¬ (x8 = 0) → Wf K (d + 2) mX12_pick 146 [some (vR 369), none, some (vI x2), some (vI x3), some (vI x4), none, some (vI s0), some (vI x7), none] [vI 1, vI x5] V Q))) : Wf K (d + 2) mX12_pick 132 [some (vR 369), none, some (vI x2), some (vI x3), some (vI x4), some (vI x5), none, some (vI x7), some (vI x8)] [vI s0] V Q := by
  refine wp_istore dX12_pick_132 (by decide) rfl ?_
  refine wp_iload dX12_pick_134 rfl ?_
  refine wp_iload dX12_pick_136 rfl ?_
  refine wp_if_eq (tgt := 145) dX12_pick_138 rfl (fun c1 => ?_) (fun c1 => ?_)
  ·
    refine wp_iconst dX12_pick_145 (by decide) ?_
    exact wp_loc (L2 := [some (vR 369), none, some (vI x2), some (vI x3), some (vI x4), none, some (vI s0), some (vI x7), none]) ⟨rfl, ⟨rfl, ⟨rfl, ⟨rfl, ⟨rfl, ⟨rfl, trivial⟩⟩⟩⟩⟩⟩ (h.1 c1)
  ·
    refine wp_iconst dX12_pick_141 (by decide) ?_
    refine wp_goto (tgt := 146) dX12_pick_142 rfl ?_
    exact wp_loc (L2 := [some (vR 369), none, some (vI x2), some (vI x3), some (vI x4), none, some (vI s0), some (vI x7), none]) ⟨rfl, ⟨rfl, ⟨rfl, ⟨rfl, ⟨rfl, ⟨rfl, trivial⟩⟩⟩⟩⟩⟩ (h.2 c1)
set_option maxHeartbeats 4000000 in
set_option maxRecDepth 10000 in
theorem sX12_pick_146 {K : KK} {d : Nat} {V : Mem} {Q : Option AV → Mem → Prop} (x2 : Int) (x3 : Int) (x4 : Int) (x6 : Int) (x7 : Int) (s0 : Int) (s1 : Int) (h : Wf K (d + 2) mX12_pick 42 [some (vR 369), none, some (vI x2), some (vI x3), some (vI x4), some (vI (w32 (s0 - s1))), some (vI x6), some (vI (w32 (x7 + 1))), none] [] V Q) : Wf K (d + 2) mX12_pick 146 [some (vR 369), none, some (vI x2), some (vI x3), some (vI x4), none, some (vI x6), some (vI x7), none] [vI s1, vI s0] V Q := by
  refine wp_isub dX12_pick_146 ?_
  refine wp_istore dX12_pick_147 (by decide) rfl ?_
  refine wp_iinc dX12_pick_149 rfl rfl ?_
  refine wp_goto (tgt := 42) dX12_pick_152 rfl ?_
  exact h
set_option maxHeartbeats 4000000 in
set_option maxRecDepth 10000 in
theorem sX12_ways {K : KK} {d : Nat} {V : Mem} {Q : Option AV → Mem → Prop} (x1 : Int) (x2 : Int) (x3 : Int) (h : Mf K (d + 1) mX12_isWindow [vR 369, vI x1, vI x2, vI x3] (upm V 369 0 0) (fun r V1 => ∃ z1, r = some (vI z1) ∧ ((¬ z1 = 0 → Mf K d mX12_laysRow [vR 369, vI x1] V1 (fun r V3 => r = none ∧ Mf K d mX12_findsLongs [vR 369] V3 (fun r V4 => r = none ∧ Mf K (d + 1) mX12_waysOf [vR 369, vI x2, vI x3] V4 (fun r V5 => ∃ z5, r = some (vI z5) ∧ Q (some (vI z5)) V5)))) ∧ (z1 = 0 → Q (some (vI (-1))) V1)))) : Mf K (d + 2) mX12_ways [vR 369, vI x1, vI x2, vI x3] V Q := by
  refine Mt.of2 (L := [some (vR 369), some (vI x1), some (vI x2), some (vI x3)]) pnX12 rfl rfl ?_
  refine wp_aload_n dX12_ways_0 rfl rfl ?_
  refine wp_iconst dX12_ways_1 (by decide) ?_
  refine wp_putI dX12_ways_2 fwX12_1 rfl sh369 (by decide) ?_
  refine wp_aload_n dX12_ways_5 rfl rfl ?_
  refine wp_iload_n dX12_ways_6 rfl rfl ?_
  refine wp_iload_n dX12_ways_7 rfl rfl ?_
  refine wp_iload_n dX12_ways_8 rfl rfl ?_
  refine wp_callV (S := []) (as := [vI x1, vI x2, vI x3]) dX12_ways_9 lX12_330 (h) (by omega) sh369 rfl rfl (Nat.le_of_ble_eq_true rfl) ⟨Nat.le_refl _, Nat.le_refl _⟩ ?_
  rintro _ _ V1 ⟨rfl, z1, rfl, q1⟩
  show Wp _ _ _ _ _ 12 _ [vI z1] _ _ _ _ _
  refine wp_if_ne (tgt := 17) dX12_ways_12 rfl (fun c2 => ?_) (fun c2 => ?_)
  ·
    refine wp_aload_n dX12_ways_17 rfl rfl ?_
    refine wp_iload_n dX12_ways_18 rfl rfl ?_
    refine wp_inlV (d' := (d + 1)) (S := []) (as := [vI x1]) dX12_ways_19 lX12_334 (by omega) sh369 rfl rfl (Nat.le_of_ble_eq_true rfl) ⟨Nat.le_refl _, Nat.le_refl _⟩ (Mt.of2 (L := [some (vR 369), some (vI x1)]) pnX12 rfl rfl ?_)
    refine wp_aload_n dX12_laysAll_0 rfl rfl ?_
    refine wp_iload_n dX12_laysAll_1 rfl rfl ?_
    refine wp_callV (S := []) (as := [vI x1]) dX12_laysAll_2 lX12_324 ((q1.1 c2)) (by omega) sh369 rfl rfl (Nat.le_of_ble_eq_true rfl) ⟨Nat.le_refl _, Nat.le_refl _⟩ ?_
    rintro _ _ V3 ⟨rfl, rfl, q3⟩
    show Wp _ _ _ _ _ 5 _ [] _ _ _ _ _
    refine wp_aload_n dX12_laysAll_5 rfl rfl ?_
    refine wp_callV (S := []) (as := []) dX12_laysAll_6 lX12_327 (q3) (by omega) sh369 rfl rfl (Nat.le_of_ble_eq_true rfl) ⟨Nat.le_refl _, Nat.le_refl _⟩ ?_
    rintro _ _ V4 ⟨rfl, rfl, q4⟩
    show Wp _ _ _ _ _ 9 _ [] _ _ _ _ _
    refine wp_return dX12_laysAll_9 rfl ⟨rfl, rfl⟩ ?_
    show Wp _ _ _ _ _ 22 _ [] _ _ _ _ _
    refine wp_aload_n dX12_ways_22 rfl rfl ?_
    refine wp_iload_n dX12_ways_23 rfl rfl ?_
    refine wp_iload_n dX12_ways_24 rfl rfl ?_
    refine wp_callV (S := []) (as := [vI x2, vI x3]) dX12_ways_25 lX12_340 (q4) (by omega) sh369 rfl rfl (Nat.le_of_ble_eq_true rfl) ⟨Nat.le_refl _, Nat.le_refl _⟩ ?_
    rintro _ _ V5 ⟨rfl, z5, rfl, q5⟩
    show Wp _ _ _ _ _ 28 _ [vI z5] _ _ _ _ _
    exact wp_ireturn dX12_ways_28 rfl ⟨rfl, rfl⟩ ⟨rfl, q5⟩
  ·
    refine wp_iconst dX12_ways_15 (by decide) ?_
    exact wp_ireturn dX12_ways_16 rfl ⟨rfl, rfl⟩ ⟨rfl, (q1.2 c2)⟩
set_option maxHeartbeats 4000000 in
set_option maxRecDepth 10000 in
theorem sX12_waysOf {K : KK} {d : Nat} {V : Mem} {Q : Option AV → Mem → Prop} (x1 : Int) (x2 : Int) (h : Mf K d mX12_findsEnding [vR 369, vI x1, vI x2] V (fun r V1 => r = none ∧ ((¬ x1 = x2 → Wf K (d + 1) mX12_waysOf 20 [some (vR 369), some (vI x1), some (vI x2), some (vJ 0), none, some (vI x1)] [] V1 Q) ∧ (x1 = x2 → Wf K (d + 1) mX12_waysOf 20 [some (vR 369), some (vI x1), some (vI x2), some (vJ 1), none, some (vI x1)] [] V1 Q)))) : Mf K (d + 1) mX12_waysOf [vR 369, vI x1, vI x2] V Q := by
  refine Mt.of2 (L := [some (vR 369), some (vI x1), some (vI x2), none, none, none]) pnX12 rfl rfl ?_
  refine wp_aload_n dX12_waysOf_0 rfl rfl ?_
  refine wp_iload_n dX12_waysOf_1 rfl rfl ?_
  refine wp_iload_n dX12_waysOf_2 rfl rfl ?_
  refine wp_callV (S := []) (as := [vI x1, vI x2]) dX12_waysOf_3 lX12_318 (h) (by omega) sh369 rfl rfl (Nat.le_of_ble_eq_true rfl) ⟨Nat.le_refl _, Nat.le_refl _⟩ ?_
  rintro _ _ V1 ⟨rfl, rfl, q1⟩
  show Wp _ _ _ _ _ 6 _ [] _ _ _ _ _
  refine wp_iload_n dX12_waysOf_6 rfl rfl ?_
  refine wp_iload_n dX12_waysOf_7 rfl rfl ?_
  refine wp_icmp_ne (tgt := 15) dX12_waysOf_8 rfl (fun c2 => ?_) (fun c2 => ?_)
  ·
    refine wp_lconst dX12_waysOf_15 rfl ?_
    refine wp_lstore_n dX12_waysOf_16 rfl (by decide) rfl ?_
    refine wp_iload_n dX12_waysOf_17 rfl rfl ?_
    refine wp_istore dX12_waysOf_18 (by decide) rfl ?_
    exact (q1.1 c2)
  ·
    refine wp_lconst dX12_waysOf_11 rfl ?_
    refine wp_goto (tgt := 16) dX12_waysOf_12 rfl ?_
    refine wp_lstore_n dX12_waysOf_16 rfl (by decide) rfl ?_
    refine wp_iload_n dX12_waysOf_17 rfl rfl ?_
    refine wp_istore dX12_waysOf_18 (by decide) rfl ?_
    exact (q1.2 c2)
set_option maxHeartbeats 4000000 in
set_option maxRecDepth 10000 in
theorem sX12_waysOf_20 {K : KK} {d : Nat} {V : Mem} {Q : Option AV → Mem → Prop} (x1 : Int) (x2 : Int) (j3 : Int) (x5 : Int) (h : ((x2 ≤ x5 → (((b_lcmp j3 2000000000) ≤ 0 → Q (some (vI (w32 j3))) V) ∧ (¬ ((b_lcmp j3 2000000000) ≤ 0) → Q (some (vI 2000000000)) V))) ∧ (¬ (x2 ≤ x5) → (((0 : Int) ≤ x5 ∧ x5 < (20 : Nat)) ∧ (((0 : Int) ≤ (w32 ((w32 (21 * x1)) + x2)) ∧ (w32 ((w32 (21 * x1)) + x2)) < (441 : Nat)) ∧ ((¬ (V 385 (Int.toNat x5)) = (V 384 (Int.toNat (w32 ((w32 (21 * x1)) + x2)))) → Wf K (d + 1) mX12_waysOf 20 [some (vR 369), some (vI x1), some (vI x2), some (vJ (w64 (j3 + 0))), none, some (vI (w32 (x5 + 1)))] [] V Q) ∧ ((V 385 (Int.toNat x5)) = (V 384 (Int.toNat (w32 ((w32 (21 * x1)) + x2)))) → (((0 : Int) ≤ x5 ∧ x5 < (20 : Nat)) ∧ Wf K (d + 1) mX12_waysOf 20 [some (vR 369), some (vI x1), some (vI x2), some (vJ (w64 (j3 + (V 387 (Int.toNat x5))))), none, some (vI (w32 (x5 + 1)))] [] V Q)))))))) : Wf K (d + 1) mX12_waysOf 20 [some (vR 369), some (vI x1), some (vI x2), some (vJ j3), none, some (vI x5)] [] V Q := by
  refine wp_iload dX12_waysOf_20 rfl ?_
  refine wp_iload_n dX12_waysOf_22 rfl rfl ?_
  refine wp_icmp_ge (tgt := 62) dX12_waysOf_23 rfl (fun c1 => ?_) (fun c1 => ?_)
  ·
    refine wp_lload_n dX12_waysOf_62 rfl rfl ?_
    refine wp_ldc2 (z := 2000000000) dX12_waysOf_63 kX12_343 (by decide) ?_
    refine wp_lcmp dX12_waysOf_66 ?_
    refine wp_if_le (tgt := 76) dX12_waysOf_67 rfl (fun c2 => ?_) (fun c2 => ?_)
    ·
      refine wp_lload_n dX12_waysOf_76 rfl rfl ?_
      refine wp_l2i dX12_waysOf_77 ?_
      exact wp_ireturn dX12_waysOf_78 rfl ⟨rfl, rfl⟩ ⟨rfl, ((h.1 c1).1 c2)⟩
    ·
      refine wp_ldcw (z := 2000000000) dX12_waysOf_70 kX12_345 (by decide) ?_
      refine wp_goto (tgt := 78) dX12_waysOf_73 rfl ?_
      exact wp_ireturn dX12_waysOf_78 rfl ⟨rfl, rfl⟩ ⟨rfl, ((h.1 c1).2 c2)⟩
  ·
    refine wp_lload_n dX12_waysOf_26 rfl rfl ?_
    refine wp_aload_n dX12_waysOf_27 rfl rfl ?_
    refine wp_getR (b := 385) dX12_waysOf_28 fX12_106 rfl sh369 (by decide) rfl ?_
    refine wp_iload dX12_waysOf_31 rfl ?_
    refine wp_iald dX12_waysOf_33 sh385 (h.2 c1).1 ?_
    refine wp_aload_n dX12_waysOf_34 rfl rfl ?_
    refine wp_iload_n dX12_waysOf_35 rfl rfl ?_
    refine wp_iload_n dX12_waysOf_36 rfl rfl ?_
    refine wp_inlV (d' := d) (S := [vI (V 385 (Int.toNat x5)), vJ j3]) (as := [vI x1, vI x2]) dX12_waysOf_37 lX12_321 (by omega) sh369 rfl rfl (Nat.le_of_ble_eq_true rfl) ⟨Nat.le_refl _, Nat.le_refl _⟩ (Mt.of2 (L := [some (vR 369), some (vI x1), some (vI x2)]) pnX12 rfl rfl ?_)
    refine wp_aload_n dX12_longAt_0 rfl rfl ?_
    refine wp_getR (b := 384) dX12_longAt_1 fX12_103 rfl sh369 (by decide) rfl ?_
    refine wp_bipush dX12_longAt_4 (by decide) ?_
    refine wp_iload_n dX12_longAt_6 rfl rfl ?_
    refine wp_imul dX12_longAt_7 ?_
    refine wp_iload_n dX12_longAt_8 rfl rfl ?_
    refine wp_iadd dX12_longAt_9 ?_
    refine wp_iald dX12_longAt_10 sh384 (h.2 c1).2.1 ?_
    refine wp_ireturn dX12_longAt_11 rfl ⟨rfl, rfl⟩ ?_
    show Wp _ _ _ _ _ 40 _ [vI (V 384 (Int.toNat (w32 ((w32 (21 * x1)) + x2)))), vI (V 385 (Int.toNat x5)), vJ j3] _ _ _ _ _
    refine wp_icmp_ne (tgt := 53) dX12_waysOf_40 rfl (fun c3 => ?_) (fun c3 => ?_)
    ·
      refine wp_lconst dX12_waysOf_53 rfl ?_
      refine wp_ladd dX12_waysOf_54 ?_
      refine wp_lstore_n dX12_waysOf_55 rfl (by decide) rfl ?_
      refine wp_iinc dX12_waysOf_56 rfl rfl ?_
      refine wp_goto (tgt := 20) dX12_waysOf_59 rfl ?_
      exact ((h.2 c1).2.2.1 c3)
    ·
      refine wp_aload_n dX12_waysOf_43 rfl rfl ?_
      refine wp_getR (b := 387) dX12_waysOf_44 fX12_112 rfl sh369 (by decide) rfl ?_
      refine wp_iload dX12_waysOf_47 rfl ?_
      refine wp_lald dX12_waysOf_49 sh387 ((h.2 c1).2.2.2 c3).1 ?_
      refine wp_goto (tgt := 54) dX12_waysOf_50 rfl ?_
      refine wp_ladd dX12_waysOf_54 ?_
      refine wp_lstore_n dX12_waysOf_55 rfl (by decide) rfl ?_
      refine wp_iinc dX12_waysOf_56 rfl rfl ?_
      refine wp_goto (tgt := 20) dX12_waysOf_59 rfl ?_
      exact ((h.2 c1).2.2.2 c3).2
set_option maxHeartbeats 4000000 in
set_option maxRecDepth 10000 in
theorem sX12_mayOf {K : KK} {d : Nat} {V : Mem} {Q : Option AV → Mem → Prop} (x1 : Int) (x2 : Int) (h : Mf K d mX12_findsEnding [vR 369, vI x1, vI x2] V (fun r V1 => r = none ∧ Mf K d mX12_findsStarting [vR 369, vI x1, vI x2] V1 (fun r V2 => r = none ∧ Wf K (d + 1) mX12_mayOf 17 [some (vR 369), some (vI x1), some (vI x2), some (vI 0), some (vI x1)] [] V2 Q))) : Mf K (d + 1) mX12_mayOf [vR 369, vI x1, vI x2] V Q := by
  refine Mt.of2 (L := [some (vR 369), some (vI x1), some (vI x2), none, none]) pnX12 rfl rfl ?_
  refine wp_aload_n dX12_mayOf_0 rfl rfl ?_
  refine wp_iload_n dX12_mayOf_1 rfl rfl ?_
  refine wp_iload_n dX12_mayOf_2 rfl rfl ?_
  refine wp_callV (S := []) (as := [vI x1, vI x2]) dX12_mayOf_3 lX12_318 (h) (by omega) sh369 rfl rfl (Nat.le_of_ble_eq_true rfl) ⟨Nat.le_refl _, Nat.le_refl _⟩ ?_
  rintro _ _ V1 ⟨rfl, rfl, q1⟩
  show Wp _ _ _ _ _ 6 _ [] _ _ _ _ _
  refine wp_aload_n dX12_mayOf_6 rfl rfl ?_
  refine wp_iload_n dX12_mayOf_7 rfl rfl ?_
  refine wp_iload_n dX12_mayOf_8 rfl rfl ?_
  refine wp_callV (S := []) (as := [vI x1, vI x2]) dX12_mayOf_9 lX12_337 (q1) (by omega) sh369 rfl rfl (Nat.le_of_ble_eq_true rfl) ⟨Nat.le_refl _, Nat.le_refl _⟩ ?_
  rintro _ _ V2 ⟨rfl, rfl, q2⟩
  show Wp _ _ _ _ _ 12 _ [] _ _ _ _ _
  refine wp_iconst dX12_mayOf_12 (by decide) ?_
  refine wp_istore_n dX12_mayOf_13 rfl (by decide) rfl ?_
  refine wp_iload_n dX12_mayOf_14 rfl rfl ?_
  refine wp_istore dX12_mayOf_15 (by decide) rfl ?_
  exact q2
set_option maxHeartbeats 4000000 in
set_option maxRecDepth 10000 in
theorem sX12_mayOf_17 {K : KK} {d : Nat} {V : Mem} {Q : Option AV → Mem → Prop} (x1 : Int) (x2 : Int) (x3 : Int) (x4 : Int) (h : ((x2 ≤ x4 → Q (some (vI x3)) V) ∧ (¬ (x2 ≤ x4) → (((0 : Int) ≤ x4 ∧ x4 < (20 : Nat)) ∧ (((0 : Int) ≤ x4 ∧ x4 < (20 : Nat)) ∧ (((0 : Int) ≤ (w32 ((w32 (21 * x1)) + x2)) ∧ (w32 ((w32 (21 * x1)) + x2)) < (441 : Nat)) ∧ ((¬ (w32 ((w32 ((V 385 (Int.toNat x4)) + (V 386 (Int.toNat x4)))) - 1)) = (V 384 (Int.toNat (w32 ((w32 (21 * x1)) + x2)))) → Wf K (d + 1) mX12_mayOf 17 [some (vR 369), some (vI x1), some (vI x2), some (vI (b_ior x3 0)), some (vI (w32 (x4 + 1)))] [] V Q) ∧ ((w32 ((w32 ((V 385 (Int.toNat x4)) + (V 386 (Int.toNat x4)))) - 1)) = (V 384 (Int.toNat (w32 ((w32 (21 * x1)) + x2)))) → Wf K (d + 1) mX12_mayOf 17 [some (vR 369), some (vI x1), some (vI x2), some (vI (b_ior x3 (b_ishl 1 x4))), some (vI (w32 (x4 + 1)))] [] V Q)))))))) : Wf K (d + 1) mX12_mayOf 17 [some (vR 369), some (vI x1), some (vI x2), some (vI x3), some (vI x4)] [] V Q := by
  refine wp_iload dX12_mayOf_17 rfl ?_
  refine wp_iload_n dX12_mayOf_19 rfl rfl ?_
  refine wp_icmp_ge (tgt := 66) dX12_mayOf_20 rfl (fun c1 => ?_) (fun c1 => ?_)
  ·
    refine wp_iload_n dX12_mayOf_66 rfl rfl ?_
    exact wp_ireturn dX12_mayOf_67 rfl ⟨rfl, rfl⟩ ⟨rfl, (h.1 c1)⟩
  ·
    refine wp_iload_n dX12_mayOf_23 rfl rfl ?_
    refine wp_aload_n dX12_mayOf_24 rfl rfl ?_
    refine wp_getR (b := 385) dX12_mayOf_25 fX12_106 rfl sh369 (by decide) rfl ?_
    refine wp_iload dX12_mayOf_28 rfl ?_
    refine wp_iald dX12_mayOf_30 sh385 (h.2 c1).1 ?_
    refine wp_aload_n dX12_mayOf_31 rfl rfl ?_
    refine wp_getR (b := 386) dX12_mayOf_32 fX12_109 rfl sh369 (by decide) rfl ?_
    refine wp_iload dX12_mayOf_35 rfl ?_
    refine wp_iald dX12_mayOf_37 sh386 (h.2 c1).2.1 ?_
    refine wp_iadd dX12_mayOf_38 ?_
    refine wp_iconst dX12_mayOf_39 (by decide) ?_
    refine wp_isub dX12_mayOf_40 ?_
    refine wp_aload_n dX12_mayOf_41 rfl rfl ?_
    refine wp_iload_n dX12_mayOf_42 rfl rfl ?_
    refine wp_iload_n dX12_mayOf_43 rfl rfl ?_
    refine wp_inlV (d' := d) (S := [vI (w32 ((w32 ((V 385 (Int.toNat x4)) + (V 386 (Int.toNat x4)))) - 1)), vI x3]) (as := [vI x1, vI x2]) dX12_mayOf_44 lX12_321 (by omega) sh369 rfl rfl (Nat.le_of_ble_eq_true rfl) ⟨Nat.le_refl _, Nat.le_refl _⟩ (Mt.of2 (L := [some (vR 369), some (vI x1), some (vI x2)]) pnX12 rfl rfl ?_)
    refine wp_aload_n dX12_longAt_0 rfl rfl ?_
    refine wp_getR (b := 384) dX12_longAt_1 fX12_103 rfl sh369 (by decide) rfl ?_
    refine wp_bipush dX12_longAt_4 (by decide) ?_
    refine wp_iload_n dX12_longAt_6 rfl rfl ?_
    refine wp_imul dX12_longAt_7 ?_
    refine wp_iload_n dX12_longAt_8 rfl rfl ?_
    refine wp_iadd dX12_longAt_9 ?_
    refine wp_iald dX12_longAt_10 sh384 (h.2 c1).2.2.1 ?_
    refine wp_ireturn dX12_longAt_11 rfl ⟨rfl, rfl⟩ ?_
    show Wp _ _ _ _ _ 47 _ [vI (V 384 (Int.toNat (w32 ((w32 (21 * x1)) + x2)))), vI (w32 ((w32 ((V 385 (Int.toNat x4)) + (V 386 (Int.toNat x4)))) - 1)), vI x3] _ _ _ _ _
    refine wp_icmp_ne (tgt := 57) dX12_mayOf_47 rfl (fun c2 => ?_) (fun c2 => ?_)
    ·
      refine wp_iconst dX12_mayOf_57 (by decide) ?_
      refine wp_ior dX12_mayOf_58 ?_
      refine wp_istore_n dX12_mayOf_59 rfl (by decide) rfl ?_
      refine wp_iinc dX12_mayOf_60 rfl rfl ?_
      refine wp_goto (tgt := 17) dX12_mayOf_63 rfl ?_
      exact ((h.2 c1).2.2.2.1 c2)
    ·
      refine wp_iconst dX12_mayOf_50 (by decide) ?_
      refine wp_iload dX12_mayOf_51 rfl ?_
      refine wp_ishl dX12_mayOf_53 ?_
      refine wp_goto (tgt := 58) dX12_mayOf_54 rfl ?_
      refine wp_ior dX12_mayOf_58 ?_
      refine wp_istore_n dX12_mayOf_59 rfl (by decide) rfl ?_
      refine wp_iinc dX12_mayOf_60 rfl rfl ?_
      refine wp_goto (tgt := 17) dX12_mayOf_63 rfl ?_
      exact ((h.2 c1).2.2.2.2 c2)
set_option maxHeartbeats 4000000 in
set_option maxRecDepth 10000 in
theorem sX12_may {K : KK} {d : Nat} {V : Mem} {Q : Option AV → Mem → Prop} (x1 : Int) (x2 : Int) (x3 : Int) (h : Mf K (d + 1) mX12_isWindow [vR 369, vI x1, vI x2, vI x3] (upm V 369 0 0) (fun r V1 => ∃ z1, r = some (vI z1) ∧ ((¬ z1 = 0 → Mf K d mX12_laysRow [vR 369, vI x1] V1 (fun r V3 => r = none ∧ Mf K d mX12_findsLongs [vR 369] V3 (fun r V4 => r = none ∧ Mf K (d + 1) mX12_mayOf [vR 369, vI x2, vI x3] V4 (fun r V5 => ∃ z5, r = some (vI z5) ∧ Q (some (vI z5)) V5)))) ∧ (z1 = 0 → Q (some (vI (-1))) V1)))) : Mf K (d + 2) mX12_may [vR 369, vI x1, vI x2, vI x3] V Q := by
  refine Mt.of2 (L := [some (vR 369), some (vI x1), some (vI x2), some (vI x3)]) pnX12 rfl rfl ?_
  refine wp_aload_n dX12_may_0 rfl rfl ?_
  refine wp_iconst dX12_may_1 (by decide) ?_
  refine wp_putI dX12_may_2 fwX12_1 rfl sh369 (by decide) ?_
  refine wp_aload_n dX12_may_5 rfl rfl ?_
  refine wp_iload_n dX12_may_6 rfl rfl ?_
  refine wp_iload_n dX12_may_7 rfl rfl ?_
  refine wp_iload_n dX12_may_8 rfl rfl ?_
  refine wp_callV (S := []) (as := [vI x1, vI x2, vI x3]) dX12_may_9 lX12_330 (h) (by omega) sh369 rfl rfl (Nat.le_of_ble_eq_true rfl) ⟨Nat.le_refl _, Nat.le_refl _⟩ ?_
  rintro _ _ V1 ⟨rfl, z1, rfl, q1⟩
  show Wp _ _ _ _ _ 12 _ [vI z1] _ _ _ _ _
  refine wp_if_ne (tgt := 17) dX12_may_12 rfl (fun c2 => ?_) (fun c2 => ?_)
  ·
    refine wp_aload_n dX12_may_17 rfl rfl ?_
    refine wp_iload_n dX12_may_18 rfl rfl ?_
    refine wp_inlV (d' := (d + 1)) (S := []) (as := [vI x1]) dX12_may_19 lX12_334 (by omega) sh369 rfl rfl (Nat.le_of_ble_eq_true rfl) ⟨Nat.le_refl _, Nat.le_refl _⟩ (Mt.of2 (L := [some (vR 369), some (vI x1)]) pnX12 rfl rfl ?_)
    refine wp_aload_n dX12_laysAll_0 rfl rfl ?_
    refine wp_iload_n dX12_laysAll_1 rfl rfl ?_
    refine wp_callV (S := []) (as := [vI x1]) dX12_laysAll_2 lX12_324 ((q1.1 c2)) (by omega) sh369 rfl rfl (Nat.le_of_ble_eq_true rfl) ⟨Nat.le_refl _, Nat.le_refl _⟩ ?_
    rintro _ _ V3 ⟨rfl, rfl, q3⟩
    show Wp _ _ _ _ _ 5 _ [] _ _ _ _ _
    refine wp_aload_n dX12_laysAll_5 rfl rfl ?_
    refine wp_callV (S := []) (as := []) dX12_laysAll_6 lX12_327 (q3) (by omega) sh369 rfl rfl (Nat.le_of_ble_eq_true rfl) ⟨Nat.le_refl _, Nat.le_refl _⟩ ?_
    rintro _ _ V4 ⟨rfl, rfl, q4⟩
    show Wp _ _ _ _ _ 9 _ [] _ _ _ _ _
    refine wp_return dX12_laysAll_9 rfl ⟨rfl, rfl⟩ ?_
    show Wp _ _ _ _ _ 22 _ [] _ _ _ _ _
    refine wp_aload_n dX12_may_22 rfl rfl ?_
    refine wp_iload_n dX12_may_23 rfl rfl ?_
    refine wp_iload_n dX12_may_24 rfl rfl ?_
    refine wp_callV (S := []) (as := [vI x2, vI x3]) dX12_may_25 lX12_346 (q4) (by omega) sh369 rfl rfl (Nat.le_of_ble_eq_true rfl) ⟨Nat.le_refl _, Nat.le_refl _⟩ ?_
    rintro _ _ V5 ⟨rfl, z5, rfl, q5⟩
    show Wp _ _ _ _ _ 28 _ [vI z5] _ _ _ _ _
    exact wp_ireturn dX12_may_28 rfl ⟨rfl, rfl⟩ ⟨rfl, q5⟩
  ·
    refine wp_iconst dX12_may_15 (by decide) ?_
    exact wp_ireturn dX12_may_16 rfl ⟨rfl, rfl⟩ ⟨rfl, (q1.2 c2)⟩
set_option maxHeartbeats 4000000 in
set_option maxRecDepth 10000 in
theorem sX12_must {K : KK} {d : Nat} {V : Mem} {Q : Option AV → Mem → Prop} (x1 : Int) (x2 : Int) (x3 : Int) (h : Mf K (d + 1) mX12_isWindow [vR 369, vI x1, vI x2, vI x3] (upm V 369 0 0) (fun r V1 => ∃ z1, r = some (vI z1) ∧ ((¬ z1 = 0 → Mf K d mX12_laysRow [vR 369, vI x1] V1 (fun r V3 => r = none ∧ Mf K d mX12_findsLongs [vR 369] V3 (fun r V4 => r = none ∧ Mf K (d + 1) mX12_mayOf [vR 369, vI x2, vI x3] V4 (fun r V5 => ∃ z5, r = some (vI z5) ∧ Wf K (d + 2) mX12_must 37 [some (vR 369), none, some (vI x2), some (vI x3), some (vI z5), some (vI z5), some (vI x2), none, none] [] V5 Q)))) ∧ (z1 = 0 → Q (some (vI (-1))) V1)))) : Mf K (d + 2) mX12_must [vR 369, vI x1, vI x2, vI x3] V Q := by
  refine Mt.of2 (L := [some (vR 369), some (vI x1), some (vI x2), some (vI x3), none, none, none, none, none]) pnX12 rfl rfl ?_
  refine wp_aload_n dX12_must_0 rfl rfl ?_
  refine wp_iconst dX12_must_1 (by decide) ?_
  refine wp_putI dX12_must_2 fwX12_1 rfl sh369 (by decide) ?_
  refine wp_aload_n dX12_must_5 rfl rfl ?_
  refine wp_iload_n dX12_must_6 rfl rfl ?_
  refine wp_iload_n dX12_must_7 rfl rfl ?_
  refine wp_iload_n dX12_must_8 rfl rfl ?_
  refine wp_callV (S := []) (as := [vI x1, vI x2, vI x3]) dX12_must_9 lX12_330 (h) (by omega) sh369 rfl rfl (Nat.le_of_ble_eq_true rfl) ⟨Nat.le_refl _, Nat.le_refl _⟩ ?_
  rintro _ _ V1 ⟨rfl, z1, rfl, q1⟩
  show Wp _ _ _ _ _ 12 _ [vI z1] _ _ _ _ _
  refine wp_if_ne (tgt := 17) dX12_must_12 rfl (fun c2 => ?_) (fun c2 => ?_)
  ·
    refine wp_aload_n dX12_must_17 rfl rfl ?_
    refine wp_iload_n dX12_must_18 rfl rfl ?_
    refine wp_inlV (d' := (d + 1)) (S := []) (as := [vI x1]) dX12_must_19 lX12_334 (by omega) sh369 rfl rfl (Nat.le_of_ble_eq_true rfl) ⟨Nat.le_refl _, Nat.le_refl _⟩ (Mt.of2 (L := [some (vR 369), some (vI x1)]) pnX12 rfl rfl ?_)
    refine wp_aload_n dX12_laysAll_0 rfl rfl ?_
    refine wp_iload_n dX12_laysAll_1 rfl rfl ?_
    refine wp_callV (S := []) (as := [vI x1]) dX12_laysAll_2 lX12_324 ((q1.1 c2)) (by omega) sh369 rfl rfl (Nat.le_of_ble_eq_true rfl) ⟨Nat.le_refl _, Nat.le_refl _⟩ ?_
    rintro _ _ V3 ⟨rfl, rfl, q3⟩
    show Wp _ _ _ _ _ 5 _ [] _ _ _ _ _
    refine wp_aload_n dX12_laysAll_5 rfl rfl ?_
    refine wp_callV (S := []) (as := []) dX12_laysAll_6 lX12_327 (q3) (by omega) sh369 rfl rfl (Nat.le_of_ble_eq_true rfl) ⟨Nat.le_refl _, Nat.le_refl _⟩ ?_
    rintro _ _ V4 ⟨rfl, rfl, q4⟩
    show Wp _ _ _ _ _ 9 _ [] _ _ _ _ _
    refine wp_return dX12_laysAll_9 rfl ⟨rfl, rfl⟩ ?_
    show Wp _ _ _ _ _ 22 _ [] _ _ _ _ _
    refine wp_aload_n dX12_must_22 rfl rfl ?_
    refine wp_iload_n dX12_must_23 rfl rfl ?_
    refine wp_iload_n dX12_must_24 rfl rfl ?_
    refine wp_callV (S := []) (as := [vI x2, vI x3]) dX12_must_25 lX12_346 (q4) (by omega) sh369 rfl rfl (Nat.le_of_ble_eq_true rfl) ⟨Nat.le_refl _, Nat.le_refl _⟩ ?_
    rintro _ _ V5 ⟨rfl, z5, rfl, q5⟩
    show Wp _ _ _ _ _ 28 _ [vI z5] _ _ _ _ _
    refine wp_istore dX12_must_28 (by decide) rfl ?_
    refine wp_iload dX12_must_30 rfl ?_
    refine wp_istore dX12_must_32 (by decide) rfl ?_
    refine wp_iload_n dX12_must_34 rfl rfl ?_
    refine wp_istore dX12_must_35 (by decide) rfl ?_
    exact wp_loc (L2 := [some (vR 369), none, some (vI x2), some (vI x3), some (vI z5), some (vI z5), some (vI x2), none, none]) ⟨rfl, ⟨rfl, ⟨rfl, ⟨rfl, ⟨rfl, ⟨rfl, trivial⟩⟩⟩⟩⟩⟩ q5
  ·
    refine wp_iconst dX12_must_15 (by decide) ?_
    exact wp_ireturn dX12_must_16 rfl ⟨rfl, rfl⟩ ⟨rfl, (q1.2 c2)⟩
set_option maxHeartbeats 4000000 in
set_option maxRecDepth 10000 in
theorem sX12_must_37 {K : KK} {d : Nat} {V : Mem} {Q : Option AV → Mem → Prop} (x2 : Int) (x3 : Int) (x4 : Int) (x5 : Int) (x6 : Int) (h : ((x3 ≤ x6 → Q (some (vI x5)) V) ∧ (¬ (x3 ≤ x6) → Wf K (d + 2) mX12_must 46 [some (vR 369), none, some (vI x2), some (vI x3), some (vI x4), some (vI x5), some (vI x6), some (vI x2), none] [] V Q))) : Wf K (d + 2) mX12_must 37 [some (vR 369), none, some (vI x2), some (vI x3), some (vI x4), some (vI x5), some (vI x6), none, none] [] V Q := by
  refine wp_iload dX12_must_37 rfl ?_
  refine wp_iload_n dX12_must_39 rfl rfl ?_
  refine wp_icmp_ge (tgt := 136) dX12_must_40 rfl (fun c1 => ?_) (fun c1 => ?_)
  ·
    refine wp_iload dX12_must_136 rfl ?_
    exact wp_ireturn dX12_must_138 rfl ⟨rfl, rfl⟩ ⟨rfl, (h.1 c1)⟩
  ·
    refine wp_iload_n dX12_must_43 rfl rfl ?_
    refine wp_istore dX12_must_44 (by decide) rfl ?_
    exact (h.2 c1)
set_option maxHeartbeats 4000000 in
set_option maxRecDepth 10000 in
theorem sX12_must_46 {K : KK} {d : Nat} {V : Mem} {Q : Option AV → Mem → Prop} (x2 : Int) (x3 : Int) (x4 : Int) (x5 : Int) (x6 : Int) (x7 : Int) (h : ((x6 ≤ x7 → Wf K (d + 2) mX12_must 37 [some (vR 369), none, some (vI x2), some (vI x3), some (vI x4), some (vI x5), some (vI (w32 (x6 + 1))), none, none] [] V Q) ∧ (¬ (x6 ≤ x7) → ((¬ (b_iand (b_ishr x4 x6) 1) = 1 → Wf K (d + 2) mX12_must 46 [some (vR 369), none, some (vI x2), some (vI x3), some (vI x4), some (vI (b_iand x5 (-1))), some (vI x6), some (vI (w32 (x7 + 1))), none] [] V Q) ∧ ((b_iand (b_ishr x4 x6) 1) = 1 → ((¬ (b_iand (b_ishr x4 x7) 1) = 1 → Wf K (d + 2) mX12_must 46 [some (vR 369), none, some (vI x2), some (vI x3), some (vI x4), some (vI (b_iand x5 (-1))), some (vI x6), some (vI (w32 (x7 + 1))), none] [] V Q) ∧ ((b_iand (b_ishr x4 x7) 1) = 1 → (((0 : Int) ≤ x6 ∧ x6 < (20 : Nat)) ∧ (((0 : Int) ≤ x7 ∧ x7 < (20 : Nat)) ∧ ((¬ (V 385 (Int.toNat x6)) = (V 385 (Int.toNat x7)) → Wf K (d + 2) mX12_must 46 [some (vR 369), none, some (vI x2), some (vI x3), some (vI x4), some (vI (b_iand x5 (-1))), some (vI x6), some (vI (w32 (x7 + 1))), none] [] V Q) ∧ ((V 385 (Int.toNat x6)) = (V 385 (Int.toNat x7)) → Wf K (d + 2) mX12_must 46 [some (vR 369), none, some (vI x2), some (vI x3), some (vI x4), some (vI (b_iand x5 (b_ixor (b_ior (b_ishl 1 x6) (b_ishl 1 x7)) (-1)))), some (vI x6), some (vI (w32 (x7 + 1))), none] [] V Q))))))))))) : Wf K (d + 2) mX12_must 46 [some (vR 369), none, some (vI x2), some (vI x3), some (vI x4), some (vI x5), some (vI x6), some (vI x7), none] [] V Q := by
  refine wp_iload dX12_must_46 rfl ?_
  refine wp_iload dX12_must_48 rfl ?_
  refine wp_icmp_ge (tgt := 130) dX12_must_50 rfl (fun c1 => ?_) (fun c1 => ?_)
  ·
    refine wp_iinc dX12_must_130 rfl rfl ?_
    refine wp_goto (tgt := 37) dX12_must_133 rfl ?_
    exact wp_loc (L2 := [some (vR 369), none, some (vI x2), some (vI x3), some (vI x4), some (vI x5), some (vI (w32 (x6 + 1))), none, none]) ⟨rfl, ⟨rfl, ⟨rfl, ⟨rfl, ⟨rfl, ⟨rfl, trivial⟩⟩⟩⟩⟩⟩ (h.1 c1)
  ·
    refine wp_iload dX12_must_53 rfl ?_
    refine wp_iload dX12_must_55 rfl ?_
    refine wp_ishr dX12_must_57 ?_
    refine wp_iconst dX12_must_58 (by decide) ?_
    refine wp_iand dX12_must_59 ?_
    refine wp_iconst dX12_must_60 (by decide) ?_
    refine wp_icmp_ne (tgt := 96) dX12_must_61 rfl (fun c2 => ?_) (fun c2 => ?_)
    ·
      refine wp_iconst dX12_must_96 (by decide) ?_
      refine wp_istore dX12_must_97 (by decide) rfl ?_
      refine wp_iload dX12_must_99 rfl ?_
      refine wp_iload dX12_must_101 rfl ?_
      refine wp_if_eq (tgt := 120) dX12_must_103 rfl (fun c3 => ?_) (fun c3 => False.elim (by revert c3; decide))
      refine wp_iconst dX12_must_120 (by decide) ?_
      refine wp_iand dX12_must_121 ?_
      refine wp_istore dX12_must_122 (by decide) rfl ?_
      refine wp_iinc dX12_must_124 rfl rfl ?_
      refine wp_goto (tgt := 46) dX12_must_127 rfl ?_
      exact wp_loc (L2 := [some (vR 369), none, some (vI x2), some (vI x3), some (vI x4), some (vI (b_iand x5 (-1))), some (vI x6), some (vI (w32 (x7 + 1))), none]) ⟨rfl, ⟨rfl, ⟨rfl, ⟨rfl, ⟨rfl, ⟨rfl, ⟨rfl, trivial⟩⟩⟩⟩⟩⟩⟩ ((h.2 c1).1 c2)
    ·
      refine wp_iload dX12_must_64 rfl ?_
      refine wp_iload dX12_must_66 rfl ?_
      refine wp_ishr dX12_must_68 ?_
      refine wp_iconst dX12_must_69 (by decide) ?_
      refine wp_iand dX12_must_70 ?_
      refine wp_iconst dX12_must_71 (by decide) ?_
      refine wp_icmp_ne (tgt := 96) dX12_must_72 rfl (fun c4 => ?_) (fun c4 => ?_)
      ·
        refine wp_iconst dX12_must_96 (by decide) ?_
        refine wp_istore dX12_must_97 (by decide) rfl ?_
        refine wp_iload dX12_must_99 rfl ?_
        refine wp_iload dX12_must_101 rfl ?_
        refine wp_if_eq (tgt := 120) dX12_must_103 rfl (fun c5 => ?_) (fun c5 => False.elim (by revert c5; decide))
        refine wp_iconst dX12_must_120 (by decide) ?_
        refine wp_iand dX12_must_121 ?_
        refine wp_istore dX12_must_122 (by decide) rfl ?_
        refine wp_iinc dX12_must_124 rfl rfl ?_
        refine wp_goto (tgt := 46) dX12_must_127 rfl ?_
        exact wp_loc (L2 := [some (vR 369), none, some (vI x2), some (vI x3), some (vI x4), some (vI (b_iand x5 (-1))), some (vI x6), some (vI (w32 (x7 + 1))), none]) ⟨rfl, ⟨rfl, ⟨rfl, ⟨rfl, ⟨rfl, ⟨rfl, ⟨rfl, trivial⟩⟩⟩⟩⟩⟩⟩ (((h.2 c1).2 c2).1 c4)
      ·
        refine wp_aload_n dX12_must_75 rfl rfl ?_
        refine wp_getR (b := 385) dX12_must_76 fX12_106 rfl sh369 (by decide) rfl ?_
        refine wp_iload dX12_must_79 rfl ?_
        refine wp_iald dX12_must_81 sh385 (((h.2 c1).2 c2).2 c4).1 ?_
        refine wp_aload_n dX12_must_82 rfl rfl ?_
        refine wp_getR (b := 385) dX12_must_83 fX12_106 rfl sh369 (by decide) rfl ?_
        refine wp_iload dX12_must_86 rfl ?_
        refine wp_iald dX12_must_88 sh385 (((h.2 c1).2 c2).2 c4).2.1 ?_
        refine wp_icmp_ne (tgt := 96) dX12_must_89 rfl (fun c6 => ?_) (fun c6 => ?_)
        ·
          refine wp_iconst dX12_must_96 (by decide) ?_
          refine wp_istore dX12_must_97 (by decide) rfl ?_
          refine wp_iload dX12_must_99 rfl ?_
          refine wp_iload dX12_must_101 rfl ?_
          refine wp_if_eq (tgt := 120) dX12_must_103 rfl (fun c7 => ?_) (fun c7 => False.elim (by revert c7; decide))
          refine wp_iconst dX12_must_120 (by decide) ?_
          refine wp_iand dX12_must_121 ?_
          refine wp_istore dX12_must_122 (by decide) rfl ?_
          refine wp_iinc dX12_must_124 rfl rfl ?_
          refine wp_goto (tgt := 46) dX12_must_127 rfl ?_
          exact wp_loc (L2 := [some (vR 369), none, some (vI x2), some (vI x3), some (vI x4), some (vI (b_iand x5 (-1))), some (vI x6), some (vI (w32 (x7 + 1))), none]) ⟨rfl, ⟨rfl, ⟨rfl, ⟨rfl, ⟨rfl, ⟨rfl, ⟨rfl, trivial⟩⟩⟩⟩⟩⟩⟩ ((((h.2 c1).2 c2).2 c4).2.2.1 c6)
        ·
          refine wp_iconst dX12_must_92 (by decide) ?_
          refine wp_goto (tgt := 97) dX12_must_93 rfl ?_
          refine wp_istore dX12_must_97 (by decide) rfl ?_
          refine wp_iload dX12_must_99 rfl ?_
          refine wp_iload dX12_must_101 rfl ?_
          refine wp_if_eq (tgt := 120) dX12_must_103 rfl (fun c8 => False.elim (by revert c8; decide)) (fun c8 => ?_)
          refine wp_iconst dX12_must_106 (by decide) ?_
          refine wp_iload dX12_must_107 rfl ?_
          refine wp_ishl dX12_must_109 ?_
          refine wp_iconst dX12_must_110 (by decide) ?_
          refine wp_iload dX12_must_111 rfl ?_
          refine wp_ishl dX12_must_113 ?_
          refine wp_ior dX12_must_114 ?_
          refine wp_iconst dX12_must_115 (by decide) ?_
          refine wp_ixor dX12_must_116 ?_
          refine wp_goto (tgt := 121) dX12_must_117 rfl ?_
          refine wp_iand dX12_must_121 ?_
          refine wp_istore dX12_must_122 (by decide) rfl ?_
          refine wp_iinc dX12_must_124 rfl rfl ?_
          refine wp_goto (tgt := 46) dX12_must_127 rfl ?_
          exact wp_loc (L2 := [some (vR 369), none, some (vI x2), some (vI x3), some (vI x4), some (vI (b_iand x5 (b_ixor (b_ior (b_ishl 1 x6) (b_ishl 1 x7)) (-1)))), some (vI x6), some (vI (w32 (x7 + 1))), none]) ⟨rfl, ⟨rfl, ⟨rfl, ⟨rfl, ⟨rfl, ⟨rfl, ⟨rfl, trivial⟩⟩⟩⟩⟩⟩⟩ ((((h.2 c1).2 c2).2 c4).2.2.2 c6)
set_option maxHeartbeats 4000000 in
set_option maxRecDepth 10000 in
theorem sX12_bareAt {K : KK} {d : Nat} {V : Mem} {Q : Option AV → Mem → Prop} (x1 : Int) (x2 : Int) (h : ((x1 ≤ x2 → (((0 : Int) ≤ (w32 ((w32 (21 * x1)) + x2)) ∧ (w32 ((w32 (21 * x1)) + x2)) < (441 : Nat)) ∧ Q (some (vI (w32 ((w32 (x2 - x1)) - (V 384 (Int.toNat (w32 ((w32 (21 * x1)) + x2)))))))) V)) ∧ (¬ (x1 ≤ x2) → Q (some (vI 0)) V))) : Mf K (d + 1) mX12_bareAt [vR 369, vI x1, vI x2] V Q := by
  refine Mt.of2 (L := [some (vR 369), some (vI x1), some (vI x2)]) pnX12 rfl rfl ?_
  refine wp_iload_n dX12_bareAt_0 rfl rfl ?_
  refine wp_iload_n dX12_bareAt_1 rfl rfl ?_
  refine wp_icmp_le (tgt := 9) dX12_bareAt_2 rfl (fun c1 => ?_) (fun c1 => ?_)
  ·
    refine wp_iload_n dX12_bareAt_9 rfl rfl ?_
    refine wp_iload_n dX12_bareAt_10 rfl rfl ?_
    refine wp_isub dX12_bareAt_11 ?_
    refine wp_aload_n dX12_bareAt_12 rfl rfl ?_
    refine wp_iload_n dX12_bareAt_13 rfl rfl ?_
    refine wp_iload_n dX12_bareAt_14 rfl rfl ?_
    refine wp_inlV (d' := d) (S := [vI (w32 (x2 - x1))]) (as := [vI x1, vI x2]) dX12_bareAt_15 lX12_321 (by omega) sh369 rfl rfl (Nat.le_of_ble_eq_true rfl) ⟨Nat.le_refl _, Nat.le_refl _⟩ (Mt.of2 (L := [some (vR 369), some (vI x1), some (vI x2)]) pnX12 rfl rfl ?_)
    refine wp_aload_n dX12_longAt_0 rfl rfl ?_
    refine wp_getR (b := 384) dX12_longAt_1 fX12_103 rfl sh369 (by decide) rfl ?_
    refine wp_bipush dX12_longAt_4 (by decide) ?_
    refine wp_iload_n dX12_longAt_6 rfl rfl ?_
    refine wp_imul dX12_longAt_7 ?_
    refine wp_iload_n dX12_longAt_8 rfl rfl ?_
    refine wp_iadd dX12_longAt_9 ?_
    refine wp_iald dX12_longAt_10 sh384 (h.1 c1).1 ?_
    refine wp_ireturn dX12_longAt_11 rfl ⟨rfl, rfl⟩ ?_
    show Wp _ _ _ _ _ 18 _ [vI (V 384 (Int.toNat (w32 ((w32 (21 * x1)) + x2)))), vI (w32 (x2 - x1))] _ _ _ _ _
    refine wp_isub dX12_bareAt_18 ?_
    exact wp_ireturn dX12_bareAt_19 rfl ⟨rfl, rfl⟩ ⟨rfl, (h.1 c1).2⟩
  ·
    refine wp_iconst dX12_bareAt_5 (by decide) ?_
    refine wp_goto (tgt := 19) dX12_bareAt_6 rfl ?_
    exact wp_ireturn dX12_bareAt_19 rfl ⟨rfl, rfl⟩ ⟨rfl, (h.2 c1)⟩
set_option maxHeartbeats 4000000 in
set_option maxRecDepth 10000 in
theorem sX12_strandOf {K : KK} {d : Nat} {V : Mem} {Q : Option AV → Mem → Prop} (x1 : Int) (h : Wf K (d + 1) mX12_strandOf 2 [some (vR 369), some (vI x1), some (vI x1)] [] V Q) : Mf K (d + 1) mX12_strandOf [vR 369, vI x1] V Q := by
  refine Mt.of2 (L := [some (vR 369), some (vI x1), none]) pnX12 rfl rfl ?_
  refine wp_iload_n dX12_strandOf_0 rfl rfl ?_
  refine wp_istore_n dX12_strandOf_1 rfl (by decide) rfl ?_
  exact h
set_option maxHeartbeats 4000000 in
set_option maxRecDepth 10000 in
theorem sX12_strandOf_2 {K : KK} {d : Nat} {V : Mem} {Q : Option AV → Mem → Prop} (x1 : Int) (x2 : Int) (h : (((V 369 23) ≤ x2 → Q (some (vI (-1))) V) ∧ (¬ ((V 369 23) ≤ x2) → Mf K d mX12_bareAt [vR 369, vI x1, vI (w32 (x2 + 1))] V (fun r V2 => ∃ z2, r = some (vI z2) ∧ Mf K d mX12_bareAt [vR 369, vI (w32 (x1 + 1)), vI (w32 (x2 + 1))] V2 (fun r V3 => ∃ z3, r = some (vI z3) ∧ Mf K d mX12_bareAt [vR 369, vI x1, vI x2] V3 (fun r V4 => ∃ z4, r = some (vI z4) ∧ Mf K d mX12_bareAt [vR 369, vI (w32 (x1 + 1)), vI x2] V4 (fun r V5 => ∃ z5, r = some (vI z5) ∧ ((¬ (w32 ((w32 ((w32 (z2 - z3)) - z4)) + z5)) = 1 → Wf K (d + 1) mX12_strandOf 2 [some (vR 369), some (vI x1), some (vI (w32 (x2 + 1)))] [] V5 Q) ∧ ((w32 ((w32 ((w32 (z2 - z3)) - z4)) + z5)) = 1 → Q (some (vI x2)) V5))))))))) : Wf K (d + 1) mX12_strandOf 2 [some (vR 369), some (vI x1), some (vI x2)] [] V Q := by
  refine wp_iload_n dX12_strandOf_2 rfl rfl ?_
  refine wp_aload_n dX12_strandOf_3 rfl rfl ?_
  refine wp_getI dX12_strandOf_4 fX12_304 rfl sh369 (by decide) ?_
  refine wp_icmp_ge (tgt := 57) dX12_strandOf_7 rfl (fun c1 => ?_) (fun c1 => ?_)
  ·
    refine wp_iconst dX12_strandOf_57 (by decide) ?_
    exact wp_ireturn dX12_strandOf_58 rfl ⟨rfl, rfl⟩ ⟨rfl, (h.1 c1)⟩
  ·
    refine wp_aload_n dX12_strandOf_10 rfl rfl ?_
    refine wp_iload_n dX12_strandOf_11 rfl rfl ?_
    refine wp_iload_n dX12_strandOf_12 rfl rfl ?_
    refine wp_iconst dX12_strandOf_13 (by decide) ?_
    refine wp_iadd dX12_strandOf_14 ?_
    refine wp_callV (S := []) (as := [vI x1, vI (w32 (x2 + 1))]) dX12_strandOf_15 lX12_349 ((h.2 c1)) (by omega) sh369 rfl rfl (Nat.le_of_ble_eq_true rfl) ⟨Nat.le_refl _, Nat.le_refl _⟩ ?_
    rintro _ _ V2 ⟨rfl, z2, rfl, q2⟩
    show Wp _ _ _ _ _ 18 _ [vI z2] _ _ _ _ _
    refine wp_aload_n dX12_strandOf_18 rfl rfl ?_
    refine wp_iload_n dX12_strandOf_19 rfl rfl ?_
    refine wp_iconst dX12_strandOf_20 (by decide) ?_
    refine wp_iadd dX12_strandOf_21 ?_
    refine wp_iload_n dX12_strandOf_22 rfl rfl ?_
    refine wp_iconst dX12_strandOf_23 (by decide) ?_
    refine wp_iadd dX12_strandOf_24 ?_
    refine wp_callV (S := [vI z2]) (as := [vI (w32 (x1 + 1)), vI (w32 (x2 + 1))]) dX12_strandOf_25 lX12_349 (q2) (by omega) sh369 rfl rfl (Nat.le_of_ble_eq_true rfl) ⟨Nat.le_refl _, Nat.le_refl _⟩ ?_
    rintro _ _ V3 ⟨rfl, z3, rfl, q3⟩
    show Wp _ _ _ _ _ 28 _ [vI z3, vI z2] _ _ _ _ _
    refine wp_isub dX12_strandOf_28 ?_
    refine wp_aload_n dX12_strandOf_29 rfl rfl ?_
    refine wp_iload_n dX12_strandOf_30 rfl rfl ?_
    refine wp_iload_n dX12_strandOf_31 rfl rfl ?_
    refine wp_callV (S := [vI (w32 (z2 - z3))]) (as := [vI x1, vI x2]) dX12_strandOf_32 lX12_349 (q3) (by omega) sh369 rfl rfl (Nat.le_of_ble_eq_true rfl) ⟨Nat.le_refl _, Nat.le_refl _⟩ ?_
    rintro _ _ V4 ⟨rfl, z4, rfl, q4⟩
    show Wp _ _ _ _ _ 35 _ [vI z4, vI (w32 (z2 - z3))] _ _ _ _ _
    refine wp_isub dX12_strandOf_35 ?_
    refine wp_aload_n dX12_strandOf_36 rfl rfl ?_
    refine wp_iload_n dX12_strandOf_37 rfl rfl ?_
    refine wp_iconst dX12_strandOf_38 (by decide) ?_
    refine wp_iadd dX12_strandOf_39 ?_
    refine wp_iload_n dX12_strandOf_40 rfl rfl ?_
    refine wp_callV (S := [vI (w32 ((w32 (z2 - z3)) - z4))]) (as := [vI (w32 (x1 + 1)), vI x2]) dX12_strandOf_41 lX12_349 (q4) (by omega) sh369 rfl rfl (Nat.le_of_ble_eq_true rfl) ⟨Nat.le_refl _, Nat.le_refl _⟩ ?_
    rintro _ _ V5 ⟨rfl, z5, rfl, q5⟩
    show Wp _ _ _ _ _ 44 _ [vI z5, vI (w32 ((w32 (z2 - z3)) - z4))] _ _ _ _ _
    refine wp_iadd dX12_strandOf_44 ?_
    refine wp_iconst dX12_strandOf_45 (by decide) ?_
    refine wp_icmp_ne (tgt := 51) dX12_strandOf_46 rfl (fun c6 => ?_) (fun c6 => ?_)
    ·
      refine wp_iinc dX12_strandOf_51 rfl rfl ?_
      refine wp_goto (tgt := 2) dX12_strandOf_54 rfl ?_
      exact (q5.1 c6)
    ·
      refine wp_iload_n dX12_strandOf_49 rfl rfl ?_
      exact wp_ireturn dX12_strandOf_50 rfl ⟨rfl, rfl⟩ ⟨rfl, (q5.2 c6)⟩
set_option maxHeartbeats 4000000 in
set_option maxRecDepth 10000 in
theorem sX12_bare {K : KK} {d : Nat} {V : Mem} {Q : Option AV → Mem → Prop} (x1 : Int) (x2 : Int) (x3 : Int) (h : Mf K (d + 1) mX12_isWindow [vR 369, vI x1, vI x2, vI x3] (upm V 369 0 0) (fun r V1 => ∃ z1, r = some (vI z1) ∧ ((¬ z1 = 0 → Mf K d mX12_laysRow [vR 369, vI x1] V1 (fun r V3 => r = none ∧ Mf K d mX12_findsLongs [vR 369] V3 (fun r V4 => r = none ∧ Mf K (d + 1) mX12_bareAt [vR 369, vI x2, vI x3] V4 (fun r V5 => ∃ z5, r = some (vI z5) ∧ Q (some (vI z5)) V5)))) ∧ (z1 = 0 → Q (some (vI (-1))) V1)))) : Mf K (d + 2) mX12_bare [vR 369, vI x1, vI x2, vI x3] V Q := by
  refine Mt.of2 (L := [some (vR 369), some (vI x1), some (vI x2), some (vI x3)]) pnX12 rfl rfl ?_
  refine wp_aload_n dX12_bare_0 rfl rfl ?_
  refine wp_iconst dX12_bare_1 (by decide) ?_
  refine wp_putI dX12_bare_2 fwX12_1 rfl sh369 (by decide) ?_
  refine wp_aload_n dX12_bare_5 rfl rfl ?_
  refine wp_iload_n dX12_bare_6 rfl rfl ?_
  refine wp_iload_n dX12_bare_7 rfl rfl ?_
  refine wp_iload_n dX12_bare_8 rfl rfl ?_
  refine wp_callV (S := []) (as := [vI x1, vI x2, vI x3]) dX12_bare_9 lX12_330 (h) (by omega) sh369 rfl rfl (Nat.le_of_ble_eq_true rfl) ⟨Nat.le_refl _, Nat.le_refl _⟩ ?_
  rintro _ _ V1 ⟨rfl, z1, rfl, q1⟩
  show Wp _ _ _ _ _ 12 _ [vI z1] _ _ _ _ _
  refine wp_if_ne (tgt := 17) dX12_bare_12 rfl (fun c2 => ?_) (fun c2 => ?_)
  ·
    refine wp_aload_n dX12_bare_17 rfl rfl ?_
    refine wp_iload_n dX12_bare_18 rfl rfl ?_
    refine wp_inlV (d' := (d + 1)) (S := []) (as := [vI x1]) dX12_bare_19 lX12_334 (by omega) sh369 rfl rfl (Nat.le_of_ble_eq_true rfl) ⟨Nat.le_refl _, Nat.le_refl _⟩ (Mt.of2 (L := [some (vR 369), some (vI x1)]) pnX12 rfl rfl ?_)
    refine wp_aload_n dX12_laysAll_0 rfl rfl ?_
    refine wp_iload_n dX12_laysAll_1 rfl rfl ?_
    refine wp_callV (S := []) (as := [vI x1]) dX12_laysAll_2 lX12_324 ((q1.1 c2)) (by omega) sh369 rfl rfl (Nat.le_of_ble_eq_true rfl) ⟨Nat.le_refl _, Nat.le_refl _⟩ ?_
    rintro _ _ V3 ⟨rfl, rfl, q3⟩
    show Wp _ _ _ _ _ 5 _ [] _ _ _ _ _
    refine wp_aload_n dX12_laysAll_5 rfl rfl ?_
    refine wp_callV (S := []) (as := []) dX12_laysAll_6 lX12_327 (q3) (by omega) sh369 rfl rfl (Nat.le_of_ble_eq_true rfl) ⟨Nat.le_refl _, Nat.le_refl _⟩ ?_
    rintro _ _ V4 ⟨rfl, rfl, q4⟩
    show Wp _ _ _ _ _ 9 _ [] _ _ _ _ _
    refine wp_return dX12_laysAll_9 rfl ⟨rfl, rfl⟩ ?_
    show Wp _ _ _ _ _ 22 _ [] _ _ _ _ _
    refine wp_aload_n dX12_bare_22 rfl rfl ?_
    refine wp_iload_n dX12_bare_23 rfl rfl ?_
    refine wp_iload_n dX12_bare_24 rfl rfl ?_
    refine wp_callV (S := []) (as := [vI x2, vI x3]) dX12_bare_25 lX12_349 (q4) (by omega) sh369 rfl rfl (Nat.le_of_ble_eq_true rfl) ⟨Nat.le_refl _, Nat.le_refl _⟩ ?_
    rintro _ _ V5 ⟨rfl, z5, rfl, q5⟩
    show Wp _ _ _ _ _ 28 _ [vI z5] _ _ _ _ _
    exact wp_ireturn dX12_bare_28 rfl ⟨rfl, rfl⟩ ⟨rfl, q5⟩
  ·
    refine wp_iconst dX12_bare_15 (by decide) ?_
    exact wp_ireturn dX12_bare_16 rfl ⟨rfl, rfl⟩ ⟨rfl, (q1.2 c2)⟩
set_option maxHeartbeats 4000000 in
set_option maxRecDepth 10000 in
theorem sX12_strand {K : KK} {d : Nat} {V : Mem} {Q : Option AV → Mem → Prop} (x1 : Int) (x2 : Int) (h : Mf K (d + 1) mX12_isPlace [vR 369, vI x1, vI x2] (upm V 369 0 0) (fun r V1 => ∃ z1, r = some (vI z1) ∧ ((¬ z1 = 0 → Mf K d mX12_laysRow [vR 369, vI x1] V1 (fun r V3 => r = none ∧ Mf K d mX12_findsLongs [vR 369] V3 (fun r V4 => r = none ∧ Mf K (d + 1) mX12_strandOf [vR 369, vI x2] V4 (fun r V5 => ∃ z5, r = some (vI z5) ∧ Q (some (vI z5)) V5)))) ∧ (z1 = 0 → Q (some (vI (-1))) V1)))) : Mf K (d + 2) mX12_strand [vR 369, vI x1, vI x2] V Q := by
  refine Mt.of2 (L := [some (vR 369), some (vI x1), some (vI x2)]) pnX12 rfl rfl ?_
  refine wp_aload_n dX12_strand_0 rfl rfl ?_
  refine wp_iconst dX12_strand_1 (by decide) ?_
  refine wp_putI dX12_strand_2 fwX12_1 rfl sh369 (by decide) ?_
  refine wp_aload_n dX12_strand_5 rfl rfl ?_
  refine wp_iload_n dX12_strand_6 rfl rfl ?_
  refine wp_iload_n dX12_strand_7 rfl rfl ?_
  refine wp_callV (S := []) (as := [vI x1, vI x2]) dX12_strand_8 lX12_352 (h) (by omega) sh369 rfl rfl (Nat.le_of_ble_eq_true rfl) ⟨Nat.le_refl _, Nat.le_refl _⟩ ?_
  rintro _ _ V1 ⟨rfl, z1, rfl, q1⟩
  show Wp _ _ _ _ _ 11 _ [vI z1] _ _ _ _ _
  refine wp_if_ne (tgt := 16) dX12_strand_11 rfl (fun c2 => ?_) (fun c2 => ?_)
  ·
    refine wp_aload_n dX12_strand_16 rfl rfl ?_
    refine wp_iload_n dX12_strand_17 rfl rfl ?_
    refine wp_inlV (d' := (d + 1)) (S := []) (as := [vI x1]) dX12_strand_18 lX12_334 (by omega) sh369 rfl rfl (Nat.le_of_ble_eq_true rfl) ⟨Nat.le_refl _, Nat.le_refl _⟩ (Mt.of2 (L := [some (vR 369), some (vI x1)]) pnX12 rfl rfl ?_)
    refine wp_aload_n dX12_laysAll_0 rfl rfl ?_
    refine wp_iload_n dX12_laysAll_1 rfl rfl ?_
    refine wp_callV (S := []) (as := [vI x1]) dX12_laysAll_2 lX12_324 ((q1.1 c2)) (by omega) sh369 rfl rfl (Nat.le_of_ble_eq_true rfl) ⟨Nat.le_refl _, Nat.le_refl _⟩ ?_
    rintro _ _ V3 ⟨rfl, rfl, q3⟩
    show Wp _ _ _ _ _ 5 _ [] _ _ _ _ _
    refine wp_aload_n dX12_laysAll_5 rfl rfl ?_
    refine wp_callV (S := []) (as := []) dX12_laysAll_6 lX12_327 (q3) (by omega) sh369 rfl rfl (Nat.le_of_ble_eq_true rfl) ⟨Nat.le_refl _, Nat.le_refl _⟩ ?_
    rintro _ _ V4 ⟨rfl, rfl, q4⟩
    show Wp _ _ _ _ _ 9 _ [] _ _ _ _ _
    refine wp_return dX12_laysAll_9 rfl ⟨rfl, rfl⟩ ?_
    show Wp _ _ _ _ _ 21 _ [] _ _ _ _ _
    refine wp_aload_n dX12_strand_21 rfl rfl ?_
    refine wp_iload_n dX12_strand_22 rfl rfl ?_
    refine wp_callV (S := []) (as := [vI x2]) dX12_strand_23 lX12_355 (q4) (by omega) sh369 rfl rfl (Nat.le_of_ble_eq_true rfl) ⟨Nat.le_refl _, Nat.le_refl _⟩ ?_
    rintro _ _ V5 ⟨rfl, z5, rfl, q5⟩
    show Wp _ _ _ _ _ 26 _ [vI z5] _ _ _ _ _
    exact wp_ireturn dX12_strand_26 rfl ⟨rfl, rfl⟩ ⟨rfl, q5⟩
  ·
    refine wp_iconst dX12_strand_14 (by decide) ?_
    exact wp_ireturn dX12_strand_15 rfl ⟨rfl, rfl⟩ ⟨rfl, (q1.2 c2)⟩
set_option maxHeartbeats 4000000 in
set_option maxRecDepth 10000 in
theorem sX12_under {K : KK} {d : Nat} {V : Mem} {Q : Option AV → Mem → Prop} (x1 : Int) (x2 : Int) (x3 : Int) (h : Mf K (d + 1) mX12_isWindow [vR 369, vI x1, vI x2, vI x3] (upm V 369 0 0) (fun r V1 => ∃ z1, r = some (vI z1) ∧ ((¬ z1 = 0 → Mf K d mX12_laysRow [vR 369, vI x1] V1 (fun r V3 => r = none ∧ Mf K d mX12_findsLongs [vR 369] V3 (fun r V4 => r = none ∧ Wf K (d + 2) mX12_under 28 [some (vR 369), none, none, some (vI x3), some (vI 0), some (vI x2), none] [] V4 Q))) ∧ (z1 = 0 → Q (some (vI (-1))) V1)))) : Mf K (d + 2) mX12_under [vR 369, vI x1, vI x2, vI x3] V Q := by
  refine Mt.of2 (L := [some (vR 369), some (vI x1), some (vI x2), some (vI x3), none, none, none]) pnX12 rfl rfl ?_
  refine wp_aload_n dX12_under_0 rfl rfl ?_
  refine wp_iconst dX12_under_1 (by decide) ?_
  refine wp_putI dX12_under_2 fwX12_1 rfl sh369 (by decide) ?_
  refine wp_aload_n dX12_under_5 rfl rfl ?_
  refine wp_iload_n dX12_under_6 rfl rfl ?_
  refine wp_iload_n dX12_under_7 rfl rfl ?_
  refine wp_iload_n dX12_under_8 rfl rfl ?_
  refine wp_callV (S := []) (as := [vI x1, vI x2, vI x3]) dX12_under_9 lX12_330 (h) (by omega) sh369 rfl rfl (Nat.le_of_ble_eq_true rfl) ⟨Nat.le_refl _, Nat.le_refl _⟩ ?_
  rintro _ _ V1 ⟨rfl, z1, rfl, q1⟩
  show Wp _ _ _ _ _ 12 _ [vI z1] _ _ _ _ _
  refine wp_if_ne (tgt := 17) dX12_under_12 rfl (fun c2 => ?_) (fun c2 => ?_)
  ·
    refine wp_aload_n dX12_under_17 rfl rfl ?_
    refine wp_iload_n dX12_under_18 rfl rfl ?_
    refine wp_inlV (d' := (d + 1)) (S := []) (as := [vI x1]) dX12_under_19 lX12_334 (by omega) sh369 rfl rfl (Nat.le_of_ble_eq_true rfl) ⟨Nat.le_refl _, Nat.le_refl _⟩ (Mt.of2 (L := [some (vR 369), some (vI x1)]) pnX12 rfl rfl ?_)
    refine wp_aload_n dX12_laysAll_0 rfl rfl ?_
    refine wp_iload_n dX12_laysAll_1 rfl rfl ?_
    refine wp_callV (S := []) (as := [vI x1]) dX12_laysAll_2 lX12_324 ((q1.1 c2)) (by omega) sh369 rfl rfl (Nat.le_of_ble_eq_true rfl) ⟨Nat.le_refl _, Nat.le_refl _⟩ ?_
    rintro _ _ V3 ⟨rfl, rfl, q3⟩
    show Wp _ _ _ _ _ 5 _ [] _ _ _ _ _
    refine wp_aload_n dX12_laysAll_5 rfl rfl ?_
    refine wp_callV (S := []) (as := []) dX12_laysAll_6 lX12_327 (q3) (by omega) sh369 rfl rfl (Nat.le_of_ble_eq_true rfl) ⟨Nat.le_refl _, Nat.le_refl _⟩ ?_
    rintro _ _ V4 ⟨rfl, rfl, q4⟩
    show Wp _ _ _ _ _ 9 _ [] _ _ _ _ _
    refine wp_return dX12_laysAll_9 rfl ⟨rfl, rfl⟩ ?_
    show Wp _ _ _ _ _ 22 _ [] _ _ _ _ _
    refine wp_iconst dX12_under_22 (by decide) ?_
    refine wp_istore dX12_under_23 (by decide) rfl ?_
    refine wp_iload_n dX12_under_25 rfl rfl ?_
    refine wp_istore dX12_under_26 (by decide) rfl ?_
    exact wp_loc (L2 := [some (vR 369), none, none, some (vI x3), some (vI 0), some (vI x2), none]) ⟨rfl, ⟨rfl, ⟨rfl, ⟨rfl, trivial⟩⟩⟩⟩ q4
  ·
    refine wp_iconst dX12_under_15 (by decide) ?_
    exact wp_ireturn dX12_under_16 rfl ⟨rfl, rfl⟩ ⟨rfl, (q1.2 c2)⟩
set_option maxHeartbeats 4000000 in
set_option maxRecDepth 10000 in
theorem sX12_under_28 {K : KK} {d : Nat} {V : Mem} {Q : Option AV → Mem → Prop} (x3 : Int) (x4 : Int) (x5 : Int) (h : ((x3 ≤ x5 → Q (some (vI x4)) V) ∧ (¬ (x3 ≤ x5) → Mf K (d + 1) mX12_strandOf [vR 369, vI x5] V (fun r V2 => ∃ z2, r = some (vI z2) ∧ ((z2 < 0 → Wf K (d + 2) mX12_under 28 [some (vR 369), none, none, some (vI x3), some (vI (w32 (x4 + 0))), some (vI (w32 (x5 + 1))), none] [] V2 Q) ∧ (¬ (z2 < 0) → ((x3 ≤ z2 → Wf K (d + 2) mX12_under 28 [some (vR 369), none, none, some (vI x3), some (vI (w32 (x4 + 0))), some (vI (w32 (x5 + 1))), none] [] V2 Q) ∧ (¬ (x3 ≤ z2) → Wf K (d + 2) mX12_under 28 [some (vR 369), none, none, some (vI x3), some (vI (w32 (x4 + 1))), some (vI (w32 (x5 + 1))), none] [] V2 Q)))))))) : Wf K (d + 2) mX12_under 28 [some (vR 369), none, none, some (vI x3), some (vI x4), some (vI x5), none] [] V Q := by
  refine wp_iload dX12_under_28 rfl ?_
  refine wp_iload_n dX12_under_30 rfl rfl ?_
  refine wp_icmp_ge (tgt := 69) dX12_under_31 rfl (fun c1 => ?_) (fun c1 => ?_)
  ·
    refine wp_iload dX12_under_69 rfl ?_
    exact wp_ireturn dX12_under_71 rfl ⟨rfl, rfl⟩ ⟨rfl, (h.1 c1)⟩
  ·
    refine wp_aload_n dX12_under_34 rfl rfl ?_
    refine wp_iload dX12_under_35 rfl ?_
    refine wp_callV (S := []) (as := [vI x5]) dX12_under_37 lX12_355 ((h.2 c1)) (by omega) sh369 rfl rfl (Nat.le_of_ble_eq_true rfl) ⟨Nat.le_refl _, Nat.le_refl _⟩ ?_
    rintro _ _ V2 ⟨rfl, z2, rfl, q2⟩
    show Wp _ _ _ _ _ 40 _ [vI z2] _ _ _ _ _
    refine wp_istore dX12_under_40 (by decide) rfl ?_
    refine wp_iload dX12_under_42 rfl ?_
    refine wp_iload dX12_under_44 rfl ?_
    refine wp_if_lt (tgt := 59) dX12_under_46 rfl (fun c3 => ?_) (fun c3 => ?_)
    ·
      refine wp_iconst dX12_under_59 (by decide) ?_
      refine wp_iadd dX12_under_60 ?_
      refine wp_istore dX12_under_61 (by decide) rfl ?_
      refine wp_iinc dX12_under_63 rfl rfl ?_
      refine wp_goto (tgt := 28) dX12_under_66 rfl ?_
      exact wp_loc (L2 := [some (vR 369), none, none, some (vI x3), some (vI (w32 (x4 + 0))), some (vI (w32 (x5 + 1))), none]) ⟨rfl, ⟨rfl, ⟨rfl, ⟨rfl, trivial⟩⟩⟩⟩ (q2.1 c3)
    ·
      refine wp_iload dX12_under_49 rfl ?_
      refine wp_iload_n dX12_under_51 rfl rfl ?_
      refine wp_icmp_ge (tgt := 59) dX12_under_52 rfl (fun c4 => ?_) (fun c4 => ?_)
      ·
        refine wp_iconst dX12_under_59 (by decide) ?_
        refine wp_iadd dX12_under_60 ?_
        refine wp_istore dX12_under_61 (by decide) rfl ?_
        refine wp_iinc dX12_under_63 rfl rfl ?_
        refine wp_goto (tgt := 28) dX12_under_66 rfl ?_
        exact wp_loc (L2 := [some (vR 369), none, none, some (vI x3), some (vI (w32 (x4 + 0))), some (vI (w32 (x5 + 1))), none]) ⟨rfl, ⟨rfl, ⟨rfl, ⟨rfl, trivial⟩⟩⟩⟩ ((q2.2 c3).1 c4)
      ·
        refine wp_iconst dX12_under_55 (by decide) ?_
        refine wp_goto (tgt := 60) dX12_under_56 rfl ?_
        refine wp_iadd dX12_under_60 ?_
        refine wp_istore dX12_under_61 (by decide) rfl ?_
        refine wp_iinc dX12_under_63 rfl rfl ?_
        refine wp_goto (tgt := 28) dX12_under_66 rfl ?_
        exact wp_loc (L2 := [some (vR 369), none, none, some (vI x3), some (vI (w32 (x4 + 1))), some (vI (w32 (x5 + 1))), none]) ⟨rfl, ⟨rfl, ⟨rfl, ⟨rfl, trivial⟩⟩⟩⟩ ((q2.2 c3).2 c4)
set_option maxHeartbeats 4000000 in
set_option maxRecDepth 10000 in
theorem sX12_how {K : KK} {d : Nat} {V : Mem} {Q : Option AV → Mem → Prop} (x1 : Int) (x2 : Int) (h : Mf K (d + 1) mX12_isRow [vR 369, vI x1] (upm V 369 0 0) (fun r V1 => ∃ z1, r = some (vI z1) ∧ ((z1 = 0 → Q (some (vI (-1))) V1) ∧ (¬ (z1 = 0) → Mf K (d + 1) mX12_within [vI x2, vI 0, vI 20] V1 (fun r V3 => ∃ z3, r = some (vI z3) ∧ ((¬ z3 = 0 → Mf K d mX12_laysRow [vR 369, vI x1] V3 (fun r V5 => r = none ∧ Mf K d mX12_findsLongs [vR 369] V5 (fun r V6 => r = none ∧ Wf K (d + 2) mX12_how 35 [some (vR 369), none, some (vI x2), some (vI 0), some (vI 0), none] [] V6 Q))) ∧ (z3 = 0 → Q (some (vI (-1))) V3))))))) : Mf K (d + 2) mX12_how [vR 369, vI x1, vI x2] V Q := by
  refine Mt.of2 (L := [some (vR 369), some (vI x1), some (vI x2), none, none, none]) pnX12 rfl rfl ?_
  refine wp_aload_n dX12_how_0 rfl rfl ?_
  refine wp_iconst dX12_how_1 (by decide) ?_
  refine wp_putI dX12_how_2 fwX12_1 rfl sh369 (by decide) ?_
  refine wp_aload_n dX12_how_5 rfl rfl ?_
  refine wp_iload_n dX12_how_6 rfl rfl ?_
  refine wp_callV (S := []) (as := [vI x1]) dX12_how_7 lX12_289 (h) (by omega) sh369 rfl rfl (Nat.le_of_ble_eq_true rfl) ⟨Nat.le_refl _, Nat.le_refl _⟩ ?_
  rintro _ _ V1 ⟨rfl, z1, rfl, q1⟩
  show Wp _ _ _ _ _ 10 _ [vI z1] _ _ _ _ _
  refine wp_if_eq (tgt := 23) dX12_how_10 rfl (fun c2 => ?_) (fun c2 => ?_)
  ·
    refine wp_iconst dX12_how_23 (by decide) ?_
    exact wp_ireturn dX12_how_24 rfl ⟨rfl, rfl⟩ ⟨rfl, (q1.1 c2)⟩
  ·
    refine wp_iload_n dX12_how_13 rfl rfl ?_
    refine wp_iconst dX12_how_14 (by decide) ?_
    refine wp_bipush dX12_how_15 (by decide) ?_
    refine wp_callS (S := []) (as := [vI x2, vI 0, vI 20]) dX12_how_17 lX12_358 ((q1.2 c2)) (by omega) rfl rfl (Nat.le_of_ble_eq_true rfl) ⟨Nat.le_refl _, Nat.le_refl _⟩ ?_
    rintro _ _ V3 ⟨rfl, z3, rfl, q3⟩
    show Wp _ _ _ _ _ 20 _ [vI z3] _ _ _ _ _
    refine wp_if_ne (tgt := 25) dX12_how_20 rfl (fun c4 => ?_) (fun c4 => ?_)
    ·
      refine wp_aload_n dX12_how_25 rfl rfl ?_
      refine wp_iload_n dX12_how_26 rfl rfl ?_
      refine wp_inlV (d' := (d + 1)) (S := []) (as := [vI x1]) dX12_how_27 lX12_334 (by omega) sh369 rfl rfl (Nat.le_of_ble_eq_true rfl) ⟨Nat.le_refl _, Nat.le_refl _⟩ (Mt.of2 (L := [some (vR 369), some (vI x1)]) pnX12 rfl rfl ?_)
      refine wp_aload_n dX12_laysAll_0 rfl rfl ?_
      refine wp_iload_n dX12_laysAll_1 rfl rfl ?_
      refine wp_callV (S := []) (as := [vI x1]) dX12_laysAll_2 lX12_324 ((q3.1 c4)) (by omega) sh369 rfl rfl (Nat.le_of_ble_eq_true rfl) ⟨Nat.le_refl _, Nat.le_refl _⟩ ?_
      rintro _ _ V5 ⟨rfl, rfl, q5⟩
      show Wp _ _ _ _ _ 5 _ [] _ _ _ _ _
      refine wp_aload_n dX12_laysAll_5 rfl rfl ?_
      refine wp_callV (S := []) (as := []) dX12_laysAll_6 lX12_327 (q5) (by omega) sh369 rfl rfl (Nat.le_of_ble_eq_true rfl) ⟨Nat.le_refl _, Nat.le_refl _⟩ ?_
      rintro _ _ V6 ⟨rfl, rfl, q6⟩
      show Wp _ _ _ _ _ 9 _ [] _ _ _ _ _
      refine wp_return dX12_laysAll_9 rfl ⟨rfl, rfl⟩ ?_
      show Wp _ _ _ _ _ 30 _ [] _ _ _ _ _
      refine wp_iconst dX12_how_30 (by decide) ?_
      refine wp_istore_n dX12_how_31 rfl (by decide) rfl ?_
      refine wp_iconst dX12_how_32 (by decide) ?_
      refine wp_istore dX12_how_33 (by decide) rfl ?_
      exact wp_loc (L2 := [some (vR 369), none, some (vI x2), some (vI 0), some (vI 0), none]) ⟨rfl, ⟨rfl, ⟨rfl, ⟨rfl, trivial⟩⟩⟩⟩ q6
    ·
      refine wp_iconst dX12_how_23 (by decide) ?_
      exact wp_ireturn dX12_how_24 rfl ⟨rfl, rfl⟩ ⟨rfl, (q3.2 c4)⟩
set_option maxHeartbeats 4000000 in
set_option maxRecDepth 10000 in
theorem sX12_how_35 {K : KK} {d : Nat} {V : Mem} {Q : Option AV → Mem → Prop} (x2 : Int) (x3 : Int) (x4 : Int) (h : (((V 369 23) < x4 → Q (some (vI x3)) V) ∧ (¬ ((V 369 23) < x4) → Wf K (d + 2) mX12_how 48 [some (vR 369), none, some (vI x2), some (vI x3), some (vI x4), some (vI x4)] [] V Q))) : Wf K (d + 2) mX12_how 35 [some (vR 369), none, some (vI x2), some (vI x3), some (vI x4), none] [] V Q := by
  refine wp_iload dX12_how_35 rfl ?_
  refine wp_aload_n dX12_how_37 rfl rfl ?_
  refine wp_getI dX12_how_38 fX12_304 rfl sh369 (by decide) ?_
  refine wp_icmp_gt (tgt := 89) dX12_how_41 rfl (fun c1 => ?_) (fun c1 => ?_)
  ·
    refine wp_iload_n dX12_how_89 rfl rfl ?_
    exact wp_ireturn dX12_how_90 rfl ⟨rfl, rfl⟩ ⟨rfl, (h.1 c1)⟩
  ·
    refine wp_iload dX12_how_44 rfl ?_
    refine wp_istore dX12_how_46 (by decide) rfl ?_
    exact (h.2 c1)
set_option maxHeartbeats 4000000 in
set_option maxRecDepth 10000 in
theorem sX12_how_48 {K : KK} {d : Nat} {V : Mem} {Q : Option AV → Mem → Prop} (x2 : Int) (x3 : Int) (x4 : Int) (x5 : Int) (h : (((V 369 23) < x5 → Wf K (d + 2) mX12_how 35 [some (vR 369), none, some (vI x2), some (vI x3), some (vI (w32 (x4 + 1))), none] [] V Q) ∧ (¬ ((V 369 23) < x5) → (((0 : Int) ≤ (w32 ((w32 (21 * x4)) + x5)) ∧ (w32 ((w32 (21 * x4)) + x5)) < (441 : Nat)) ∧ ((¬ (V 384 (Int.toNat (w32 ((w32 (21 * x4)) + x5)))) = x2 → Wf K (d + 2) mX12_how 48 [some (vR 369), none, some (vI x2), some (vI (w32 (x3 + 0))), some (vI x4), some (vI (w32 (x5 + 1)))] [] V Q) ∧ ((V 384 (Int.toNat (w32 ((w32 (21 * x4)) + x5)))) = x2 → Wf K (d + 2) mX12_how 48 [some (vR 369), none, some (vI x2), some (vI (w32 (x3 + 1))), some (vI x4), some (vI (w32 (x5 + 1)))] [] V Q)))))) : Wf K (d + 2) mX12_how 48 [some (vR 369), none, some (vI x2), some (vI x3), some (vI x4), some (vI x5)] [] V Q := by
  refine wp_iload dX12_how_48 rfl ?_
  refine wp_aload_n dX12_how_50 rfl rfl ?_
  refine wp_getI dX12_how_51 fX12_304 rfl sh369 (by decide) ?_
  refine wp_icmp_gt (tgt := 83) dX12_how_54 rfl (fun c1 => ?_) (fun c1 => ?_)
  ·
    refine wp_iinc dX12_how_83 rfl rfl ?_
    refine wp_goto (tgt := 35) dX12_how_86 rfl ?_
    exact wp_loc (L2 := [some (vR 369), none, some (vI x2), some (vI x3), some (vI (w32 (x4 + 1))), none]) ⟨rfl, ⟨rfl, ⟨rfl, ⟨rfl, trivial⟩⟩⟩⟩ (h.1 c1)
  ·
    refine wp_iload_n dX12_how_57 rfl rfl ?_
    refine wp_aload_n dX12_how_58 rfl rfl ?_
    refine wp_iload dX12_how_59 rfl ?_
    refine wp_iload dX12_how_61 rfl ?_
    refine wp_inlV (d' := (d + 1)) (S := [vI x3]) (as := [vI x4, vI x5]) dX12_how_63 lX12_321 (by omega) sh369 rfl rfl (Nat.le_of_ble_eq_true rfl) ⟨Nat.le_refl _, Nat.le_refl _⟩ (Mt.of2 (L := [some (vR 369), some (vI x4), some (vI x5)]) pnX12 rfl rfl ?_)
    refine wp_aload_n dX12_longAt_0 rfl rfl ?_
    refine wp_getR (b := 384) dX12_longAt_1 fX12_103 rfl sh369 (by decide) rfl ?_
    refine wp_bipush dX12_longAt_4 (by decide) ?_
    refine wp_iload_n dX12_longAt_6 rfl rfl ?_
    refine wp_imul dX12_longAt_7 ?_
    refine wp_iload_n dX12_longAt_8 rfl rfl ?_
    refine wp_iadd dX12_longAt_9 ?_
    refine wp_iald dX12_longAt_10 sh384 (h.2 c1).1 ?_
    refine wp_ireturn dX12_longAt_11 rfl ⟨rfl, rfl⟩ ?_
    show Wp _ _ _ _ _ 66 _ [vI (V 384 (Int.toNat (w32 ((w32 (21 * x4)) + x5)))), vI x3] _ _ _ _ _
    refine wp_iload_n dX12_how_66 rfl rfl ?_
    refine wp_icmp_ne (tgt := 74) dX12_how_67 rfl (fun c2 => ?_) (fun c2 => ?_)
    ·
      refine wp_iconst dX12_how_74 (by decide) ?_
      refine wp_iadd dX12_how_75 ?_
      refine wp_istore_n dX12_how_76 rfl (by decide) rfl ?_
      refine wp_iinc dX12_how_77 rfl rfl ?_
      refine wp_goto (tgt := 48) dX12_how_80 rfl ?_
      exact ((h.2 c1).2.1 c2)
    ·
      refine wp_iconst dX12_how_70 (by decide) ?_
      refine wp_goto (tgt := 75) dX12_how_71 rfl ?_
      refine wp_iadd dX12_how_75 ?_
      refine wp_istore_n dX12_how_76 rfl (by decide) rfl ?_
      refine wp_iinc dX12_how_77 rfl rfl ?_
      refine wp_goto (tgt := 48) dX12_how_80 rfl ?_
      exact ((h.2 c1).2.2 c2)
set_option maxHeartbeats 4000000 in
set_option maxRecDepth 10000 in
theorem sX12_best {K : KK} {d : Nat} {V : Mem} {Q : Option AV → Mem → Prop} (x1 : Int) (x2 : Int) (h : Mf K (d + 1) mX12_isRow [vR 369, vI x1] (upm V 369 0 0) (fun r V1 => ∃ z1, r = some (vI z1) ∧ ((z1 = 0 → Q (some (vI (-1))) V1) ∧ (¬ (z1 = 0) → (((0 : Int) ≤ (w32 (0 + x1)) ∧ (w32 (0 + x1)) < (4532 : Nat)) ∧ Mf K (d + 1) mX12_within [vI x2, vI 0, vI (V1 381 (Int.toNat (w32 (0 + x1))))] V1 (fun r V3 => ∃ z3, r = some (vI z3) ∧ ((¬ z3 = 0 → Mf K d mX12_laysRow [vR 369, vI x1] V3 (fun r V5 => r = none ∧ Mf K d mX12_findsLongs [vR 369] V5 (fun r V6 => r = none ∧ Wf K (d + 2) mX12_best 39 [some (vR 369), none, some (vI x2), some (vI 0), some (vI 0)] [] V6 Q))) ∧ (z3 = 0 → Q (some (vI (-1))) V3)))))))) : Mf K (d + 2) mX12_best [vR 369, vI x1, vI x2] V Q := by
  refine Mt.of2 (L := [some (vR 369), some (vI x1), some (vI x2), none, none]) pnX12 rfl rfl ?_
  refine wp_aload_n dX12_best_0 rfl rfl ?_
  refine wp_iconst dX12_best_1 (by decide) ?_
  refine wp_putI dX12_best_2 fwX12_1 rfl sh369 (by decide) ?_
  refine wp_aload_n dX12_best_5 rfl rfl ?_
  refine wp_iload_n dX12_best_6 rfl rfl ?_
  refine wp_callV (S := []) (as := [vI x1]) dX12_best_7 lX12_289 (h) (by omega) sh369 rfl rfl (Nat.le_of_ble_eq_true rfl) ⟨Nat.le_refl _, Nat.le_refl _⟩ ?_
  rintro _ _ V1 ⟨rfl, z1, rfl, q1⟩
  show Wp _ _ _ _ _ 10 _ [vI z1] _ _ _ _ _
  refine wp_if_eq (tgt := 27) dX12_best_10 rfl (fun c2 => ?_) (fun c2 => ?_)
  ·
    refine wp_iconst dX12_best_27 (by decide) ?_
    exact wp_ireturn dX12_best_28 rfl ⟨rfl, rfl⟩ ⟨rfl, (q1.1 c2)⟩
  ·
    refine wp_iload_n dX12_best_13 rfl rfl ?_
    refine wp_iconst dX12_best_14 (by decide) ?_
    refine wp_aload_n dX12_best_15 rfl rfl ?_
    refine wp_iconst dX12_best_16 (by decide) ?_
    refine wp_iload_n dX12_best_17 rfl rfl ?_
    refine wp_inlV (d' := (d + 1)) (S := [vI 0, vI x2]) (as := [vI 0, vI x1]) dX12_best_18 lX12_292 (by omega) sh369 rfl rfl (Nat.le_of_ble_eq_true rfl) ⟨Nat.le_refl _, Nat.le_refl _⟩ (Mt.of2 (L := [some (vR 369), some (vI 0), some (vI x1)]) pnX12 rfl rfl ?_)
    refine wp_aload_n dX12_manyOf_0 rfl rfl ?_
    refine wp_getR (b := 381) dX12_manyOf_1 fX12_93 rfl sh369 (by decide) rfl ?_
    refine wp_iload_n dX12_manyOf_4 rfl rfl ?_
    refine wp_iload_n dX12_manyOf_5 rfl rfl ?_
    refine wp_iadd dX12_manyOf_6 ?_
    refine wp_iald dX12_manyOf_7 sh381 (q1.2 c2).1 ?_
    refine wp_ireturn dX12_manyOf_8 rfl ⟨rfl, rfl⟩ ?_
    show Wp _ _ _ _ _ 21 _ [vI (V1 381 (Int.toNat (w32 (0 + x1)))), vI 0, vI x2] _ _ _ _ _
    refine wp_callS (S := []) (as := [vI x2, vI 0, vI (V1 381 (Int.toNat (w32 (0 + x1))))]) dX12_best_21 lX12_358 ((q1.2 c2).2) (by omega) rfl rfl (Nat.le_of_ble_eq_true rfl) ⟨Nat.le_refl _, Nat.le_refl _⟩ ?_
    rintro _ _ V3 ⟨rfl, z3, rfl, q3⟩
    show Wp _ _ _ _ _ 24 _ [vI z3] _ _ _ _ _
    refine wp_if_ne (tgt := 29) dX12_best_24 rfl (fun c4 => ?_) (fun c4 => ?_)
    ·
      refine wp_aload_n dX12_best_29 rfl rfl ?_
      refine wp_iload_n dX12_best_30 rfl rfl ?_
      refine wp_inlV (d' := (d + 1)) (S := []) (as := [vI x1]) dX12_best_31 lX12_334 (by omega) sh369 rfl rfl (Nat.le_of_ble_eq_true rfl) ⟨Nat.le_refl _, Nat.le_refl _⟩ (Mt.of2 (L := [some (vR 369), some (vI x1)]) pnX12 rfl rfl ?_)
      refine wp_aload_n dX12_laysAll_0 rfl rfl ?_
      refine wp_iload_n dX12_laysAll_1 rfl rfl ?_
      refine wp_callV (S := []) (as := [vI x1]) dX12_laysAll_2 lX12_324 ((q3.1 c4)) (by omega) sh369 rfl rfl (Nat.le_of_ble_eq_true rfl) ⟨Nat.le_refl _, Nat.le_refl _⟩ ?_
      rintro _ _ V5 ⟨rfl, rfl, q5⟩
      show Wp _ _ _ _ _ 5 _ [] _ _ _ _ _
      refine wp_aload_n dX12_laysAll_5 rfl rfl ?_
      refine wp_callV (S := []) (as := []) dX12_laysAll_6 lX12_327 (q5) (by omega) sh369 rfl rfl (Nat.le_of_ble_eq_true rfl) ⟨Nat.le_refl _, Nat.le_refl _⟩ ?_
      rintro _ _ V6 ⟨rfl, rfl, q6⟩
      show Wp _ _ _ _ _ 9 _ [] _ _ _ _ _
      refine wp_return dX12_laysAll_9 rfl ⟨rfl, rfl⟩ ?_
      show Wp _ _ _ _ _ 34 _ [] _ _ _ _ _
      refine wp_iconst dX12_best_34 (by decide) ?_
      refine wp_istore_n dX12_best_35 rfl (by decide) rfl ?_
      refine wp_iconst dX12_best_36 (by decide) ?_
      refine wp_istore dX12_best_37 (by decide) rfl ?_
      exact wp_loc (L2 := [some (vR 369), none, some (vI x2), some (vI 0), some (vI 0)]) ⟨rfl, ⟨rfl, ⟨rfl, ⟨rfl, trivial⟩⟩⟩⟩ q6
    ·
      refine wp_iconst dX12_best_27 (by decide) ?_
      exact wp_ireturn dX12_best_28 rfl ⟨rfl, rfl⟩ ⟨rfl, (q3.2 c4)⟩
set_option maxHeartbeats 4000000 in
set_option maxRecDepth 10000 in
theorem sX12_best_39 {K : KK} {d : Nat} {V : Mem} {Q : Option AV → Mem → Prop} (x2 : Int) (x3 : Int) (x4 : Int) (h : (((V 369 23) < (w32 (x4 + x2)) → Q (some (vI x3)) V) ∧ (¬ ((V 369 23) < (w32 (x4 + x2))) → (((0 : Int) ≤ (w32 ((w32 (21 * x4)) + (w32 (x4 + x2)))) ∧ (w32 ((w32 (21 * x4)) + (w32 (x4 + x2)))) < (441 : Nat)) ∧ (((0 : Int) ≤ (w32 ((w32 (21 * x3)) + (w32 (x3 + x2)))) ∧ (w32 ((w32 (21 * x3)) + (w32 (x3 + x2)))) < (441 : Nat)) ∧ (((V 384 (Int.toNat (w32 ((w32 (21 * x4)) + (w32 (x4 + x2)))))) ≤ (V 384 (Int.toNat (w32 ((w32 (21 * x3)) + (w32 (x3 + x2)))))) → Wf K (d + 2) mX12_best 39 [some (vR 369), none, some (vI x2), some (vI x3), some (vI (w32 (x4 + 1)))] [] V Q) ∧ (¬ ((V 384 (Int.toNat (w32 ((w32 (21 * x4)) + (w32 (x4 + x2)))))) ≤ (V 384 (Int.toNat (w32 ((w32 (21 * x3)) + (w32 (x3 + x2))))))) → Wf K (d + 2) mX12_best 39 [some (vR 369), none, some (vI x2), some (vI x4), some (vI (w32 (x4 + 1)))] [] V Q))))))) : Wf K (d + 2) mX12_best 39 [some (vR 369), none, some (vI x2), some (vI x3), some (vI x4)] [] V Q := by
  refine wp_iload dX12_best_39 rfl ?_
  refine wp_iload_n dX12_best_41 rfl rfl ?_
  refine wp_iadd dX12_best_42 ?_
  refine wp_aload_n dX12_best_43 rfl rfl ?_
  refine wp_getI dX12_best_44 fX12_304 rfl sh369 (by decide) ?_
  refine wp_icmp_gt (tgt := 84) dX12_best_47 rfl (fun c1 => ?_) (fun c1 => ?_)
  ·
    refine wp_iload_n dX12_best_84 rfl rfl ?_
    exact wp_ireturn dX12_best_85 rfl ⟨rfl, rfl⟩ ⟨rfl, (h.1 c1)⟩
  ·
    refine wp_aload_n dX12_best_50 rfl rfl ?_
    refine wp_iload dX12_best_51 rfl ?_
    refine wp_iload dX12_best_53 rfl ?_
    refine wp_iload_n dX12_best_55 rfl rfl ?_
    refine wp_iadd dX12_best_56 ?_
    refine wp_inlV (d' := (d + 1)) (S := []) (as := [vI x4, vI (w32 (x4 + x2))]) dX12_best_57 lX12_321 (by omega) sh369 rfl rfl (Nat.le_of_ble_eq_true rfl) ⟨Nat.le_refl _, Nat.le_refl _⟩ (Mt.of2 (L := [some (vR 369), some (vI x4), some (vI (w32 (x4 + x2)))]) pnX12 rfl rfl ?_)
    refine wp_aload_n dX12_longAt_0 rfl rfl ?_
    refine wp_getR (b := 384) dX12_longAt_1 fX12_103 rfl sh369 (by decide) rfl ?_
    refine wp_bipush dX12_longAt_4 (by decide) ?_
    refine wp_iload_n dX12_longAt_6 rfl rfl ?_
    refine wp_imul dX12_longAt_7 ?_
    refine wp_iload_n dX12_longAt_8 rfl rfl ?_
    refine wp_iadd dX12_longAt_9 ?_
    refine wp_iald dX12_longAt_10 sh384 (h.2 c1).1 ?_
    refine wp_ireturn dX12_longAt_11 rfl ⟨rfl, rfl⟩ ?_
    show Wp _ _ _ _ _ 60 _ [vI (V 384 (Int.toNat (w32 ((w32 (21 * x4)) + (w32 (x4 + x2))))))] _ _ _ _ _
    refine wp_aload_n dX12_best_60 rfl rfl ?_
    refine wp_iload_n dX12_best_61 rfl rfl ?_
    refine wp_iload_n dX12_best_62 rfl rfl ?_
    refine wp_iload_n dX12_best_63 rfl rfl ?_
    refine wp_iadd dX12_best_64 ?_
    refine wp_inlV (d' := (d + 1)) (S := [vI (V 384 (Int.toNat (w32 ((w32 (21 * x4)) + (w32 (x4 + x2))))))]) (as := [vI x3, vI (w32 (x3 + x2))]) dX12_best_65 lX12_321 (by omega) sh369 rfl rfl (Nat.le_of_ble_eq_true rfl) ⟨Nat.le_refl _, Nat.le_refl _⟩ (Mt.of2 (L := [some (vR 369), some (vI x3), some (vI (w32 (x3 + x2)))]) pnX12 rfl rfl ?_)
    refine wp_aload_n dX12_longAt_0 rfl rfl ?_
    refine wp_getR (b := 384) dX12_longAt_1 fX12_103 rfl sh369 (by decide) rfl ?_
    refine wp_bipush dX12_longAt_4 (by decide) ?_
    refine wp_iload_n dX12_longAt_6 rfl rfl ?_
    refine wp_imul dX12_longAt_7 ?_
    refine wp_iload_n dX12_longAt_8 rfl rfl ?_
    refine wp_iadd dX12_longAt_9 ?_
    refine wp_iald dX12_longAt_10 sh384 (h.2 c1).2.1 ?_
    refine wp_ireturn dX12_longAt_11 rfl ⟨rfl, rfl⟩ ?_
    show Wp _ _ _ _ _ 68 _ [vI (V 384 (Int.toNat (w32 ((w32 (21 * x3)) + (w32 (x3 + x2)))))), vI (V 384 (Int.toNat (w32 ((w32 (21 * x4)) + (w32 (x4 + x2))))))] _ _ _ _ _
    refine wp_icmp_le (tgt := 76) dX12_best_68 rfl (fun c2 => ?_) (fun c2 => ?_)
    ·
      refine wp_iload_n dX12_best_76 rfl rfl ?_
      refine wp_istore_n dX12_best_77 rfl (by decide) rfl ?_
      refine wp_iinc dX12_best_78 rfl rfl ?_
      refine wp_goto (tgt := 39) dX12_best_81 rfl ?_
      exact ((h.2 c1).2.2.1 c2)
    ·
      refine wp_iload dX12_best_71 rfl ?_
      refine wp_goto (tgt := 77) dX12_best_73 rfl ?_
      refine wp_istore_n dX12_best_77 rfl (by decide) rfl ?_
      refine wp_iinc dX12_best_78 rfl rfl ?_
      refine wp_goto (tgt := 39) dX12_best_81 rfl ?_
      exact ((h.2 c1).2.2.2 c2)
set_option maxHeartbeats 4000000 in
set_option maxRecDepth 10000 in
theorem sX12_near {K : KK} {d : Nat} {V : Mem} {Q : Option AV → Mem → Prop} (x1 : Int) (x2 : Int) (h : Mf K (d + 1) mX12_isRow [vR 369, vI x1] (upm V 369 0 0) (fun r V1 => ∃ z1, r = some (vI z1) ∧ ((z1 = 0 → Q (some (vI (-1))) V1) ∧ (¬ (z1 = 0) → Mf K (d + 1) mX12_within [vI x2, vI 0, vI 20] V1 (fun r V3 => ∃ z3, r = some (vI z3) ∧ ((¬ z3 = 0 → Mf K d mX12_laysRow [vR 369, vI x1] V3 (fun r V5 => r = none ∧ Mf K d mX12_findsLongs [vR 369] V5 (fun r V6 => r = none ∧ Wf K (d + 2) mX12_near 32 [some (vR 369), none, some (vI x2), some (vI 0), none] [] V6 Q))) ∧ (z3 = 0 → Q (some (vI (-1))) V3))))))) : Mf K (d + 2) mX12_near [vR 369, vI x1, vI x2] V Q := by
  refine Mt.of2 (L := [some (vR 369), some (vI x1), some (vI x2), none, none]) pnX12 rfl rfl ?_
  refine wp_aload_n dX12_near_0 rfl rfl ?_
  refine wp_iconst dX12_near_1 (by decide) ?_
  refine wp_putI dX12_near_2 fwX12_1 rfl sh369 (by decide) ?_
  refine wp_aload_n dX12_near_5 rfl rfl ?_
  refine wp_iload_n dX12_near_6 rfl rfl ?_
  refine wp_callV (S := []) (as := [vI x1]) dX12_near_7 lX12_289 (h) (by omega) sh369 rfl rfl (Nat.le_of_ble_eq_true rfl) ⟨Nat.le_refl _, Nat.le_refl _⟩ ?_
  rintro _ _ V1 ⟨rfl, z1, rfl, q1⟩
  show Wp _ _ _ _ _ 10 _ [vI z1] _ _ _ _ _
  refine wp_if_eq (tgt := 23) dX12_near_10 rfl (fun c2 => ?_) (fun c2 => ?_)
  ·
    refine wp_iconst dX12_near_23 (by decide) ?_
    exact wp_ireturn dX12_near_24 rfl ⟨rfl, rfl⟩ ⟨rfl, (q1.1 c2)⟩
  ·
    refine wp_iload_n dX12_near_13 rfl rfl ?_
    refine wp_iconst dX12_near_14 (by decide) ?_
    refine wp_bipush dX12_near_15 (by decide) ?_
    refine wp_callS (S := []) (as := [vI x2, vI 0, vI 20]) dX12_near_17 lX12_358 ((q1.2 c2)) (by omega) rfl rfl (Nat.le_of_ble_eq_true rfl) ⟨Nat.le_refl _, Nat.le_refl _⟩ ?_
    rintro _ _ V3 ⟨rfl, z3, rfl, q3⟩
    show Wp _ _ _ _ _ 20 _ [vI z3] _ _ _ _ _
    refine wp_if_ne (tgt := 25) dX12_near_20 rfl (fun c4 => ?_) (fun c4 => ?_)
    ·
      refine wp_aload_n dX12_near_25 rfl rfl ?_
      refine wp_iload_n dX12_near_26 rfl rfl ?_
      refine wp_inlV (d' := (d + 1)) (S := []) (as := [vI x1]) dX12_near_27 lX12_334 (by omega) sh369 rfl rfl (Nat.le_of_ble_eq_true rfl) ⟨Nat.le_refl _, Nat.le_refl _⟩ (Mt.of2 (L := [some (vR 369), some (vI x1)]) pnX12 rfl rfl ?_)
      refine wp_aload_n dX12_laysAll_0 rfl rfl ?_
      refine wp_iload_n dX12_laysAll_1 rfl rfl ?_
      refine wp_callV (S := []) (as := [vI x1]) dX12_laysAll_2 lX12_324 ((q3.1 c4)) (by omega) sh369 rfl rfl (Nat.le_of_ble_eq_true rfl) ⟨Nat.le_refl _, Nat.le_refl _⟩ ?_
      rintro _ _ V5 ⟨rfl, rfl, q5⟩
      show Wp _ _ _ _ _ 5 _ [] _ _ _ _ _
      refine wp_aload_n dX12_laysAll_5 rfl rfl ?_
      refine wp_callV (S := []) (as := []) dX12_laysAll_6 lX12_327 (q5) (by omega) sh369 rfl rfl (Nat.le_of_ble_eq_true rfl) ⟨Nat.le_refl _, Nat.le_refl _⟩ ?_
      rintro _ _ V6 ⟨rfl, rfl, q6⟩
      show Wp _ _ _ _ _ 9 _ [] _ _ _ _ _
      refine wp_return dX12_laysAll_9 rfl ⟨rfl, rfl⟩ ?_
      show Wp _ _ _ _ _ 30 _ [] _ _ _ _ _
      refine wp_iconst dX12_near_30 (by decide) ?_
      refine wp_istore_n dX12_near_31 rfl (by decide) rfl ?_
      exact wp_loc (L2 := [some (vR 369), none, some (vI x2), some (vI 0), none]) ⟨rfl, ⟨rfl, ⟨rfl, trivial⟩⟩⟩ q6
    ·
      refine wp_iconst dX12_near_23 (by decide) ?_
      exact wp_ireturn dX12_near_24 rfl ⟨rfl, rfl⟩ ⟨rfl, (q3.2 c4)⟩
set_option maxHeartbeats 4000000 in
set_option maxRecDepth 10000 in
theorem sX12_near_32 {K : KK} {d : Nat} {V : Mem} {Q : Option AV → Mem → Prop} (x2 : Int) (x3 : Int) (h : (((V 369 23) < x3 → Q (some (vI (-1))) V) ∧ (¬ ((V 369 23) < x3) → Wf K (d + 2) mX12_near 43 [some (vR 369), none, some (vI x2), some (vI x3), some (vI 0)] [] V Q))) : Wf K (d + 2) mX12_near 32 [some (vR 369), none, some (vI x2), some (vI x3), none] [] V Q := by
  refine wp_iload_n dX12_near_32 rfl rfl ?_
  refine wp_aload_n dX12_near_33 rfl rfl ?_
  refine wp_getI dX12_near_34 fX12_304 rfl sh369 (by decide) ?_
  refine wp_icmp_gt (tgt := 91) dX12_near_37 rfl (fun c1 => ?_) (fun c1 => ?_)
  ·
    refine wp_iconst dX12_near_91 (by decide) ?_
    exact wp_ireturn dX12_near_92 rfl ⟨rfl, rfl⟩ ⟨rfl, (h.1 c1)⟩
  ·
    refine wp_iconst dX12_near_40 (by decide) ?_
    refine wp_istore dX12_near_41 (by decide) rfl ?_
    exact (h.2 c1)
set_option maxHeartbeats 4000000 in
set_option maxRecDepth 10000 in
theorem sX12_near_43 {K : KK} {d : Nat} {V : Mem} {Q : Option AV → Mem → Prop} (x2 : Int) (x3 : Int) (x4 : Int) (h : (((V 369 23) < (w32 (x4 + x3)) → Wf K (d + 2) mX12_near 32 [some (vR 369), none, some (vI x2), some (vI (w32 (x3 + 1))), none] [] V Q) ∧ (¬ ((V 369 23) < (w32 (x4 + x3))) → (((0 : Int) ≤ (w32 ((w32 (21 * x4)) + (w32 (x4 + x3)))) ∧ (w32 ((w32 (21 * x4)) + (w32 (x4 + x3)))) < (441 : Nat)) ∧ (((V 384 (Int.toNat (w32 ((w32 (21 * x4)) + (w32 (x4 + x3)))))) < x2 → Wf K (d + 2) mX12_near 43 [some (vR 369), none, some (vI x2), some (vI x3), some (vI (w32 (x4 + 1)))] [] V Q) ∧ (¬ ((V 384 (Int.toNat (w32 ((w32 (21 * x4)) + (w32 (x4 + x3)))))) < x2) → Q (some (vI (w32 ((w32 ((w32 (32 * x4)) + x4)) + x3)))) V)))))) : Wf K (d + 2) mX12_near 43 [some (vR 369), none, some (vI x2), some (vI x3), some (vI x4)] [] V Q := by
  refine wp_iload dX12_near_43 rfl ?_
  refine wp_iload_n dX12_near_45 rfl rfl ?_
  refine wp_iadd dX12_near_46 ?_
  refine wp_aload_n dX12_near_47 rfl rfl ?_
  refine wp_getI dX12_near_48 fX12_304 rfl sh369 (by decide) ?_
  refine wp_icmp_gt (tgt := 85) dX12_near_51 rfl (fun c1 => ?_) (fun c1 => ?_)
  ·
    refine wp_iinc dX12_near_85 rfl rfl ?_
    refine wp_goto (tgt := 32) dX12_near_88 rfl ?_
    exact wp_loc (L2 := [some (vR 369), none, some (vI x2), some (vI (w32 (x3 + 1))), none]) ⟨rfl, ⟨rfl, ⟨rfl, trivial⟩⟩⟩ (h.1 c1)
  ·
    refine wp_aload_n dX12_near_54 rfl rfl ?_
    refine wp_iload dX12_near_55 rfl ?_
    refine wp_iload dX12_near_57 rfl ?_
    refine wp_iload_n dX12_near_59 rfl rfl ?_
    refine wp_iadd dX12_near_60 ?_
    refine wp_inlV (d' := (d + 1)) (S := []) (as := [vI x4, vI (w32 (x4 + x3))]) dX12_near_61 lX12_321 (by omega) sh369 rfl rfl (Nat.le_of_ble_eq_true rfl) ⟨Nat.le_refl _, Nat.le_refl _⟩ (Mt.of2 (L := [some (vR 369), some (vI x4), some (vI (w32 (x4 + x3)))]) pnX12 rfl rfl ?_)
    refine wp_aload_n dX12_longAt_0 rfl rfl ?_
    refine wp_getR (b := 384) dX12_longAt_1 fX12_103 rfl sh369 (by decide) rfl ?_
    refine wp_bipush dX12_longAt_4 (by decide) ?_
    refine wp_iload_n dX12_longAt_6 rfl rfl ?_
    refine wp_imul dX12_longAt_7 ?_
    refine wp_iload_n dX12_longAt_8 rfl rfl ?_
    refine wp_iadd dX12_longAt_9 ?_
    refine wp_iald dX12_longAt_10 sh384 (h.2 c1).1 ?_
    refine wp_ireturn dX12_longAt_11 rfl ⟨rfl, rfl⟩ ?_
    show Wp _ _ _ _ _ 64 _ [vI (V 384 (Int.toNat (w32 ((w32 (21 * x4)) + (w32 (x4 + x3))))))] _ _ _ _ _
    refine wp_iload_n dX12_near_64 rfl rfl ?_
    refine wp_icmp_lt (tgt := 79) dX12_near_65 rfl (fun c2 => ?_) (fun c2 => ?_)
    ·
      refine wp_iinc dX12_near_79 rfl rfl ?_
      refine wp_goto (tgt := 43) dX12_near_82 rfl ?_
      exact ((h.2 c1).2.1 c2)
    ·
      refine wp_bipush dX12_near_68 (by decide) ?_
      refine wp_iload dX12_near_70 rfl ?_
      refine wp_imul dX12_near_72 ?_
      refine wp_iload dX12_near_73 rfl ?_
      refine wp_iadd dX12_near_75 ?_
      refine wp_iload_n dX12_near_76 rfl rfl ?_
      refine wp_iadd dX12_near_77 ?_
      exact wp_ireturn dX12_near_78 rfl ⟨rfl, rfl⟩ ⟨rfl, ((h.2 c1).2.2 c2)⟩
set_option maxHeartbeats 4000000 in
set_option maxRecDepth 10000 in
theorem sX12_piles {K : KK} {d : Nat} {V : Mem} {Q : Option AV → Mem → Prop} (x1 : Int) (x2 : Int) (x3 : Int) (x4 : Int) (h : Mf K d mX12_isWindow [vR 369, vI x1, vI x2, vI x3] (upm V 369 0 0) (fun r V1 => ∃ z1, r = some (vI z1) ∧ ((z1 = 0 → Wf K (d + 1) mX12_piles 33 [none, none, none, none, none, none, none, none] [] V1 Q) ∧ (¬ (z1 = 0) → ((x4 = (-1) → Wf K (d + 1) mX12_piles 36 [some (vR 369), some (vI x1), some (vI x2), some (vI x3), some (vI x4), none, none, none] [] V1 Q) ∧ (¬ (x4 = (-1)) → Mf K d mX12_within [vI x4, vI x2, vI (w32 (x3 - 1))] V1 (fun r V4 => ∃ z4, r = some (vI z4) ∧ ((¬ z4 = 0 → Wf K (d + 1) mX12_piles 36 [some (vR 369), some (vI x1), some (vI x2), some (vI x3), some (vI x4), none, none, none] [] V4 Q) ∧ (z4 = 0 → Wf K (d + 1) mX12_piles 33 [none, none, none, none, none, none, none, none] [] V4 Q))))))))) : Mf K (d + 1) mX12_piles [vR 369, vI x1, vI x2, vI x3, vI x4] V Q := by
  refine Mt.of2 (L := [some (vR 369), some (vI x1), some (vI x2), some (vI x3), some (vI x4), none, none, none]) pnX12 rfl rfl ?_
  refine wp_aload_n dX12_piles_0 rfl rfl ?_
  refine wp_iconst dX12_piles_1 (by decide) ?_
  refine wp_putI dX12_piles_2 fwX12_1 rfl sh369 (by decide) ?_
  refine wp_aload_n dX12_piles_5 rfl rfl ?_
  refine wp_iload_n dX12_piles_6 rfl rfl ?_
  refine wp_iload_n dX12_piles_7 rfl rfl ?_
  refine wp_iload_n dX12_piles_8 rfl rfl ?_
  refine wp_callV (S := []) (as := [vI x1, vI x2, vI x3]) dX12_piles_9 lX12_330 (h) (by omega) sh369 rfl rfl (Nat.le_of_ble_eq_true rfl) ⟨Nat.le_refl _, Nat.le_refl _⟩ ?_
  rintro _ _ V1 ⟨rfl, z1, rfl, q1⟩
  show Wp _ _ _ _ _ 12 _ [vI z1] _ _ _ _ _
  refine wp_if_eq (tgt := 33) dX12_piles_12 rfl (fun c2 => ?_) (fun c2 => ?_)
  ·
    exact wp_loc (L2 := [none, none, none, none, none, none, none, none]) trivial (q1.1 c2)
  ·
    refine wp_iload dX12_piles_15 rfl ?_
    refine wp_iconst dX12_piles_17 (by decide) ?_
    refine wp_icmp_eq (tgt := 36) dX12_piles_18 rfl (fun c3 => ?_) (fun c3 => ?_)
    ·
      exact ((q1.2 c2).1 c3)
    ·
      refine wp_iload dX12_piles_21 rfl ?_
      refine wp_iload_n dX12_piles_23 rfl rfl ?_
      refine wp_iload_n dX12_piles_24 rfl rfl ?_
      refine wp_iconst dX12_piles_25 (by decide) ?_
      refine wp_isub dX12_piles_26 ?_
      refine wp_callS (S := []) (as := [vI x4, vI x2, vI (w32 (x3 - 1))]) dX12_piles_27 lX12_358 (((q1.2 c2).2 c3)) (by omega) rfl rfl (Nat.le_of_ble_eq_true rfl) ⟨Nat.le_refl _, Nat.le_refl _⟩ ?_
      rintro _ _ V4 ⟨rfl, z4, rfl, q4⟩
      show Wp _ _ _ _ _ 30 _ [vI z4] _ _ _ _ _
      refine wp_if_ne (tgt := 36) dX12_piles_30 rfl (fun c5 => ?_) (fun c5 => ?_)
      ·
        exact (q4.1 c5)
      ·
        exact wp_loc (L2 := [none, none, none, none, none, none, none, none]) trivial (q4.2 c5)
set_option maxHeartbeats 4000000 in
set_option maxRecDepth 10000 in
theorem sX12_piles_33 {K : KK} {d : Nat} {V : Mem} {Q : Option AV → Mem → Prop}  (h : Q (some (vI (-2))) V) : Wf K (d + 1) mX12_piles 33 [none, none, none, none, none, none, none, none] [] V Q := by
  refine wp_bipush dX12_piles_33 (by decide) ?_
  exact wp_ireturn dX12_piles_35 rfl ⟨rfl, rfl⟩ ⟨rfl, h⟩
set_option maxHeartbeats 4000000 in
set_option maxRecDepth 10000 in
theorem sX12_piles_36 {K : KK} {d : Nat} {V : Mem} {Q : Option AV → Mem → Prop} (x1 : Int) (x2 : Int) (x3 : Int) (x4 : Int) (h : Mf K d mX12_laysRow [vR 369, vI x1] V (fun r V1 => r = none ∧ Wf K (d + 1) mX12_piles 47 [some (vR 369), none, none, some (vI x3), some (vI x4), some (vI 0), some (vI x2), none] [] V1 Q)) : Wf K (d + 1) mX12_piles 36 [some (vR 369), some (vI x1), some (vI x2), some (vI x3), some (vI x4), none, none, none] [] V Q := by
  refine wp_aload_n dX12_piles_36 rfl rfl ?_
  refine wp_iload_n dX12_piles_37 rfl rfl ?_
  refine wp_callV (S := []) (as := [vI x1]) dX12_piles_38 lX12_324 (h) (by omega) sh369 rfl rfl (Nat.le_of_ble_eq_true rfl) ⟨Nat.le_refl _, Nat.le_refl _⟩ ?_
  rintro _ _ V1 ⟨rfl, rfl, q1⟩
  show Wp _ _ _ _ _ 41 _ [] _ _ _ _ _
  refine wp_iconst dX12_piles_41 (by decide) ?_
  refine wp_istore dX12_piles_42 (by decide) rfl ?_
  refine wp_iload_n dX12_piles_44 rfl rfl ?_
  refine wp_istore dX12_piles_45 (by decide) rfl ?_
  exact wp_loc (L2 := [some (vR 369), none, none, some (vI x3), some (vI x4), some (vI 0), some (vI x2), none]) ⟨rfl, ⟨rfl, ⟨rfl, ⟨rfl, ⟨rfl, trivial⟩⟩⟩⟩⟩ q1
set_option maxHeartbeats 4000000 in
set_option maxRecDepth 10000 in
theorem sX12_piles_47 {K : KK} {d : Nat} {V : Mem} {Q : Option AV → Mem → Prop} (x3 : Int) (x4 : Int) (x5 : Int) (x6 : Int) (h : ((x3 ≤ x6 → ((0 ≤ x4 → (((0 : Int) ≤ x4 ∧ x4 < (20 : Nat)) ∧ Q (some (vI (V 389 (Int.toNat x4)))) V)) ∧ (¬ (0 ≤ x4) → Q (some (vI x5)) V))) ∧ (¬ (x3 ≤ x6) → Wf K (d + 1) mX12_piles 56 [some (vR 369), none, none, some (vI x3), some (vI x4), some (vI x5), some (vI x6), some (vI 0)] [] V Q))) : Wf K (d + 1) mX12_piles 47 [some (vR 369), none, none, some (vI x3), some (vI x4), some (vI x5), some (vI x6), none] [] V Q := by
  refine wp_iload dX12_piles_47 rfl ?_
  refine wp_iload_n dX12_piles_49 rfl rfl ?_
  refine wp_icmp_ge (tgt := 137) dX12_piles_50 rfl (fun c1 => ?_) (fun c1 => ?_)
  ·
    refine wp_iload dX12_piles_137 rfl ?_
    refine wp_if_ge (tgt := 147) dX12_piles_139 rfl (fun c2 => ?_) (fun c2 => ?_)
    ·
      refine wp_aload_n dX12_piles_147 rfl rfl ?_
      refine wp_getR (b := 389) dX12_piles_148 fX12_118 rfl sh369 (by decide) rfl ?_
      refine wp_iload dX12_piles_151 rfl ?_
      refine wp_iald dX12_piles_153 sh389 ((h.1 c1).1 c2).1 ?_
      exact wp_ireturn dX12_piles_154 rfl ⟨rfl, rfl⟩ ⟨rfl, ((h.1 c1).1 c2).2⟩
    ·
      refine wp_iload dX12_piles_142 rfl ?_
      refine wp_goto (tgt := 154) dX12_piles_144 rfl ?_
      exact wp_ireturn dX12_piles_154 rfl ⟨rfl, rfl⟩ ⟨rfl, ((h.1 c1).2 c2)⟩
  ·
    refine wp_iconst dX12_piles_53 (by decide) ?_
    refine wp_istore dX12_piles_54 (by decide) rfl ?_
    exact (h.2 c1)
set_option maxHeartbeats 4000000 in
set_option maxRecDepth 10000 in
theorem sX12_piles_56 {K : KK} {d : Nat} {V : Mem} {Q : Option AV → Mem → Prop} (x3 : Int) (x4 : Int) (x5 : Int) (x6 : Int) (x7 : Int) (h : ((x5 ≤ x7 → Wf K (d + 1) mX12_piles 90 [some (vR 369), none, none, some (vI x3), some (vI x4), some (vI x5), some (vI x6), some (vI x7)] [] V Q) ∧ (¬ (x5 ≤ x7) → (((0 : Int) ≤ x6 ∧ x6 < (20 : Nat)) ∧ (((0 : Int) ≤ x7 ∧ x7 < (20 : Nat)) ∧ Mf K d mX12_follows [vR 369, vI (V 383 (Int.toNat x6)), vI (V 388 (Int.toNat x7))] V (fun r V2 => ∃ z2, r = some (vI z2) ∧ ((z2 = 0 → Wf K (d + 1) mX12_piles 90 [some (vR 369), none, none, some (vI x3), some (vI x4), some (vI x5), some (vI x6), some (vI x7)] [] V2 Q) ∧ (¬ (z2 = 0) → Wf K (d + 1) mX12_piles 56 [some (vR 369), none, none, some (vI x3), some (vI x4), some (vI x5), some (vI x6), some (vI (w32 (x7 + 1)))] [] V2 Q)))))))) : Wf K (d + 1) mX12_piles 56 [some (vR 369), none, none, some (vI x3), some (vI x4), some (vI x5), some (vI x6), some (vI x7)] [] V Q := by
  refine wp_iload dX12_piles_56 rfl ?_
  refine wp_iload dX12_piles_58 rfl ?_
  refine wp_icmp_ge (tgt := 90) dX12_piles_60 rfl (fun c1 => ?_) (fun c1 => ?_)
  ·
    exact (h.1 c1)
  ·
    refine wp_aload_n dX12_piles_63 rfl rfl ?_
    refine wp_aload_n dX12_piles_64 rfl rfl ?_
    refine wp_getR (b := 383) dX12_piles_65 fX12_100 rfl sh369 (by decide) rfl ?_
    refine wp_iload dX12_piles_68 rfl ?_
    refine wp_iald dX12_piles_70 sh383 (h.2 c1).1 ?_
    refine wp_aload_n dX12_piles_71 rfl rfl ?_
    refine wp_getR (b := 388) dX12_piles_72 fX12_115 rfl sh369 (by decide) rfl ?_
    refine wp_iload dX12_piles_75 rfl ?_
    refine wp_iald dX12_piles_77 sh388 (h.2 c1).2.1 ?_
    refine wp_callV (S := []) (as := [vI (V 383 (Int.toNat x6)), vI (V 388 (Int.toNat x7))]) dX12_piles_78 lX12_314 ((h.2 c1).2.2) (by omega) sh369 rfl rfl (Nat.le_of_ble_eq_true rfl) ⟨Nat.le_refl _, Nat.le_refl _⟩ ?_
    rintro _ _ V2 ⟨rfl, z2, rfl, q2⟩
    show Wp _ _ _ _ _ 81 _ [vI z2] _ _ _ _ _
    refine wp_if_eq (tgt := 90) dX12_piles_81 rfl (fun c3 => ?_) (fun c3 => ?_)
    ·
      exact (q2.1 c3)
    ·
      refine wp_iinc dX12_piles_84 rfl rfl ?_
      refine wp_goto (tgt := 56) dX12_piles_87 rfl ?_
      exact (q2.2 c3)
set_option maxHeartbeats 4000000 in
set_option maxRecDepth 10000 in
theorem sX12_piles_90 {K : KK} {d : Nat} {V : Mem} {Q : Option AV → Mem → Prop} (x3 : Int) (x4 : Int) (x5 : Int) (x6 : Int) (x7 : Int) (h : (((0 : Int) ≤ x6 ∧ x6 < (20 : Nat)) ∧ (((0 : Int) ≤ x7 ∧ x7 < (20 : Nat)) ∧ (((0 : Int) ≤ x6 ∧ x6 < (20 : Nat)) ∧ ((¬ x7 = x5 → Wf K (d + 1) mX12_piles 129 [some (vR 369), none, none, some (vI x3), some (vI x4), none, some (vI x6), none] [vI x5] (upm (upm V 388 (Int.toNat x7) (V 383 (Int.toNat x6))) 389 (Int.toNat x6) x7) Q) ∧ (x7 = x5 → Wf K (d + 1) mX12_piles 129 [some (vR 369), none, none, some (vI x3), some (vI x4), none, some (vI x6), none] [vI (w32 (x5 + 1))] (upm (upm V 388 (Int.toNat x7) (V 383 (Int.toNat x6))) 389 (Int.toNat x6) x7) Q)))))) : Wf K (d + 1) mX12_piles 90 [some (vR 369), none, none, some (vI x3), some (vI x4), some (vI x5), some (vI x6), some (vI x7)] [] V Q := by
  refine wp_aload_n dX12_piles_90 rfl rfl ?_
  refine wp_getR (b := 388) dX12_piles_91 fX12_115 rfl sh369 (by decide) rfl ?_
  refine wp_iload dX12_piles_94 rfl ?_
  refine wp_aload_n dX12_piles_96 rfl rfl ?_
  refine wp_getR (b := 383) dX12_piles_97 fX12_100 rfl sh369 (by decide) rfl ?_
  refine wp_iload dX12_piles_100 rfl ?_
  refine wp_iald dX12_piles_102 sh383 h.1 ?_
  refine wp_iast dX12_piles_103 sh388 h.2.1 ?_
  refine wp_aload_n dX12_piles_104 rfl rfl ?_
  refine wp_getR (b := 389) dX12_piles_105 fX12_118 rfl sh369 (by decide) rfl ?_
  refine wp_iload dX12_piles_108 rfl ?_
  refine wp_iload dX12_piles_110 rfl ?_
  refine wp_iast dX12_piles_112 sh389 h.2.2.1 ?_
  refine wp_iload dX12_piles_113 rfl ?_
  refine wp_iload dX12_piles_115 rfl ?_
  refine wp_icmp_ne (tgt := 127) dX12_piles_117 rfl (fun c1 => ?_) (fun c1 => ?_)
  ·
    refine wp_iload dX12_piles_127 rfl ?_
    exact wp_loc (L2 := [some (vR 369), none, none, some (vI x3), some (vI x4), none, some (vI x6), none]) ⟨rfl, ⟨rfl, ⟨rfl, ⟨rfl, trivial⟩⟩⟩⟩ (h.2.2.2.1 c1)
  ·
    refine wp_iload dX12_piles_120 rfl ?_
    refine wp_iconst dX12_piles_122 (by decide) ?_
    refine wp_iadd dX12_piles_123 ?_
    refine wp_goto (tgt := 129) dX12_piles_124 rfl ?_
    exact wp_loc (L2 := [some (vR 369), none, none, some (vI x3), some (vI x4), none, some (vI x6), none]) ⟨rfl, ⟨rfl, ⟨rfl, ⟨rfl, trivial⟩⟩⟩⟩ (h.2.2.2.2 c1)
set_option maxHeartbeats 4000000 in
set_option maxRecDepth 10000 in
theorem sX12_piles_129 {K : KK} {d : Nat} {V : Mem} {Q : Option AV → Mem → Prop} (x3 : Int) (x4 : Int) (x6 : Int) (s0 : Int) (h : Wf K (d + 1) mX12_piles 47 [some (vR 369), none, none, some (vI x3), some (vI x4), some (vI s0), some (vI (w32 (x6 + 1))), none] [] V Q) : Wf K (d + 1) mX12_piles 129 [some (vR 369), none, none, some (vI x3), some (vI x4), none, some (vI x6), none] [vI s0] V Q := by
  refine wp_istore dX12_piles_129 (by decide) rfl ?_
  refine wp_iinc dX12_piles_131 rfl rfl ?_
  refine wp_goto (tgt := 47) dX12_piles_134 rfl ?_
  exact h
set_option maxHeartbeats 4000000 in
set_option maxRecDepth 10000 in
theorem sX12_shape {K : KK} {d : Nat} {V : Mem} {Q : Option AV → Mem → Prop} (x1 : Int) (x2 : Int) (x3 : Int) (x4 : Int) (h : Mf K d mX12_isWindow [vR 369, vI x1, vI x2, vI x3] (upm V 369 0 0) (fun r V1 => ∃ z1, r = some (vI z1) ∧ ((z1 = 0 → Q (some (vI (-1))) V1) ∧ (¬ (z1 = 0) → Mf K d mX12_within [vI x4, vI 0, vI 20] V1 (fun r V3 => ∃ z3, r = some (vI z3) ∧ ((¬ z3 = 0 → Mf K d mX12_laysRow [vR 369, vI x1] V3 (fun r V5 => r = none ∧ Wf K (d + 1) mX12_shape 36 [some (vR 369), none, some (vI x2), some (vI x3), some (vI x4), some (vI 0)] [] V5 Q)) ∧ (z3 = 0 → Q (some (vI (-1))) V3))))))) : Mf K (d + 1) mX12_shape [vR 369, vI x1, vI x2, vI x3, vI x4] V Q := by
  refine Mt.of2 (L := [some (vR 369), some (vI x1), some (vI x2), some (vI x3), some (vI x4), none]) pnX12 rfl rfl ?_
  refine wp_aload_n dX12_shape_0 rfl rfl ?_
  refine wp_iconst dX12_shape_1 (by decide) ?_
  refine wp_putI dX12_shape_2 fwX12_1 rfl sh369 (by decide) ?_
  refine wp_aload_n dX12_shape_5 rfl rfl ?_
  refine wp_iload_n dX12_shape_6 rfl rfl ?_
  refine wp_iload_n dX12_shape_7 rfl rfl ?_
  refine wp_iload_n dX12_shape_8 rfl rfl ?_
  refine wp_callV (S := []) (as := [vI x1, vI x2, vI x3]) dX12_shape_9 lX12_330 (h) (by omega) sh369 rfl rfl (Nat.le_of_ble_eq_true rfl) ⟨Nat.le_refl _, Nat.le_refl _⟩ ?_
  rintro _ _ V1 ⟨rfl, z1, rfl, q1⟩
  show Wp _ _ _ _ _ 12 _ [vI z1] _ _ _ _ _
  refine wp_if_eq (tgt := 26) dX12_shape_12 rfl (fun c2 => ?_) (fun c2 => ?_)
  ·
    refine wp_iconst dX12_shape_26 (by decide) ?_
    exact wp_ireturn dX12_shape_27 rfl ⟨rfl, rfl⟩ ⟨rfl, (q1.1 c2)⟩
  ·
    refine wp_iload dX12_shape_15 rfl ?_
    refine wp_iconst dX12_shape_17 (by decide) ?_
    refine wp_bipush dX12_shape_18 (by decide) ?_
    refine wp_callS (S := []) (as := [vI x4, vI 0, vI 20]) dX12_shape_20 lX12_358 ((q1.2 c2)) (by omega) rfl rfl (Nat.le_of_ble_eq_true rfl) ⟨Nat.le_refl _, Nat.le_refl _⟩ ?_
    rintro _ _ V3 ⟨rfl, z3, rfl, q3⟩
    show Wp _ _ _ _ _ 23 _ [vI z3] _ _ _ _ _
    refine wp_if_ne (tgt := 28) dX12_shape_23 rfl (fun c4 => ?_) (fun c4 => ?_)
    ·
      refine wp_aload_n dX12_shape_28 rfl rfl ?_
      refine wp_iload_n dX12_shape_29 rfl rfl ?_
      refine wp_callV (S := []) (as := [vI x1]) dX12_shape_30 lX12_324 ((q3.1 c4)) (by omega) sh369 rfl rfl (Nat.le_of_ble_eq_true rfl) ⟨Nat.le_refl _, Nat.le_refl _⟩ ?_
      rintro _ _ V5 ⟨rfl, rfl, q5⟩
      show Wp _ _ _ _ _ 33 _ [] _ _ _ _ _
      refine wp_iconst dX12_shape_33 (by decide) ?_
      refine wp_istore dX12_shape_34 (by decide) rfl ?_
      exact wp_loc (L2 := [some (vR 369), none, some (vI x2), some (vI x3), some (vI x4), some (vI 0)]) ⟨rfl, ⟨rfl, ⟨rfl, ⟨rfl, ⟨rfl, trivial⟩⟩⟩⟩⟩ q5
    ·
      refine wp_iconst dX12_shape_26 (by decide) ?_
      exact wp_ireturn dX12_shape_27 rfl ⟨rfl, rfl⟩ ⟨rfl, (q3.2 c4)⟩
set_option maxHeartbeats 4000000 in
set_option maxRecDepth 10000 in
theorem sX12_shape_36 {K : KK} {d : Nat} {V : Mem} {Q : Option AV → Mem → Prop} (x2 : Int) (x3 : Int) (x4 : Int) (x5 : Int) (h : ((20 < x5 → Wf K (d + 1) mX12_shape 60 [some (vR 369), none, none, some (vI x3), some (vI x4), some (vI x2)] [] V Q) ∧ (¬ (20 < x5) → (((0 : Int) ≤ x5 ∧ x5 < (21 : Nat)) ∧ Wf K (d + 1) mX12_shape 36 [some (vR 369), none, some (vI x2), some (vI x3), some (vI x4), some (vI (w32 (x5 + 1)))] [] (upm V 391 (Int.toNat x5) 0) Q)))) : Wf K (d + 1) mX12_shape 36 [some (vR 369), none, some (vI x2), some (vI x3), some (vI x4), some (vI x5)] [] V Q := by
  refine wp_iload dX12_shape_36 rfl ?_
  refine wp_bipush dX12_shape_38 (by decide) ?_
  refine wp_icmp_gt (tgt := 57) dX12_shape_40 rfl (fun c1 => ?_) (fun c1 => ?_)
  ·
    refine wp_iload_n dX12_shape_57 rfl rfl ?_
    refine wp_istore dX12_shape_58 (by decide) rfl ?_
    exact wp_loc (L2 := [some (vR 369), none, none, some (vI x3), some (vI x4), some (vI x2)]) ⟨rfl, ⟨rfl, ⟨rfl, ⟨rfl, trivial⟩⟩⟩⟩ (h.1 c1)
  ·
    refine wp_aload_n dX12_shape_43 rfl rfl ?_
    refine wp_getR (b := 391) dX12_shape_44 fX12_124 rfl sh369 (by decide) rfl ?_
    refine wp_iload dX12_shape_47 rfl ?_
    refine wp_iconst dX12_shape_49 (by decide) ?_
    refine wp_iast dX12_shape_50 sh391 (h.2 c1).1 ?_
    refine wp_iinc dX12_shape_51 rfl rfl ?_
    refine wp_goto (tgt := 36) dX12_shape_54 rfl ?_
    exact (h.2 c1).2
set_option maxHeartbeats 4000000 in
set_option maxRecDepth 10000 in
theorem sX12_shape_60 {K : KK} {d : Nat} {V : Mem} {Q : Option AV → Mem → Prop} (x3 : Int) (x4 : Int) (x5 : Int) (h : ((x3 ≤ x5 → (((0 : Int) ≤ x4 ∧ x4 < (21 : Nat)) ∧ Q (some (vI (V 391 (Int.toNat x4)))) V)) ∧ (¬ (x3 ≤ x5) → (((0 : Int) ≤ x5 ∧ x5 < (20 : Nat)) ∧ Mf K d mX12_inserts [vR 369, vI (V 383 (Int.toNat x5))] V (fun r V2 => r = none ∧ Wf K (d + 1) mX12_shape 60 [some (vR 369), none, none, some (vI x3), some (vI x4), some (vI (w32 (x5 + 1)))] [] V2 Q))))) : Wf K (d + 1) mX12_shape 60 [some (vR 369), none, none, some (vI x3), some (vI x4), some (vI x5)] [] V Q := by
  refine wp_iload dX12_shape_60 rfl ?_
  refine wp_iload_n dX12_shape_62 rfl rfl ?_
  refine wp_icmp_ge (tgt := 83) dX12_shape_63 rfl (fun c1 => ?_) (fun c1 => ?_)
  ·
    refine wp_aload_n dX12_shape_83 rfl rfl ?_
    refine wp_getR (b := 391) dX12_shape_84 fX12_124 rfl sh369 (by decide) rfl ?_
    refine wp_iload dX12_shape_87 rfl ?_
    refine wp_iald dX12_shape_89 sh391 (h.1 c1).1 ?_
    exact wp_ireturn dX12_shape_90 rfl ⟨rfl, rfl⟩ ⟨rfl, (h.1 c1).2⟩
  ·
    refine wp_aload_n dX12_shape_66 rfl rfl ?_
    refine wp_aload_n dX12_shape_67 rfl rfl ?_
    refine wp_getR (b := 383) dX12_shape_68 fX12_100 rfl sh369 (by decide) rfl ?_
    refine wp_iload dX12_shape_71 rfl ?_
    refine wp_iald dX12_shape_73 sh383 (h.2 c1).1 ?_
    refine wp_callV (S := []) (as := [vI (V 383 (Int.toNat x5))]) dX12_shape_74 lX12_361 ((h.2 c1).2) (by omega) sh369 rfl rfl (Nat.le_of_ble_eq_true rfl) ⟨Nat.le_refl _, Nat.le_refl _⟩ ?_
    rintro _ _ V2 ⟨rfl, rfl, q2⟩
    show Wp _ _ _ _ _ 77 _ [] _ _ _ _ _
    refine wp_iinc dX12_shape_77 rfl rfl ?_
    refine wp_goto (tgt := 60) dX12_shape_80 rfl ?_
    exact q2
set_option maxHeartbeats 4000000 in
set_option maxRecDepth 10000 in
theorem sX12_inserts {K : KK} {d : Nat} {V : Mem} {Q : Option AV → Mem → Prop} (x1 : Int) (h : Wf K (d + 1) mX12_inserts 4 [some (vR 369), none, some (vI x1), some (vI 0), none, none, none] [] V Q) : Mf K (d + 1) mX12_inserts [vR 369, vI x1] V Q := by
  refine Mt.of2 (L := [some (vR 369), some (vI x1), none, none, none, none, none]) pnX12 rfl rfl ?_
  refine wp_iload_n dX12_inserts_0 rfl rfl ?_
  refine wp_istore_n dX12_inserts_1 rfl (by decide) rfl ?_
  refine wp_iconst dX12_inserts_2 (by decide) ?_
  refine wp_istore_n dX12_inserts_3 rfl (by decide) rfl ?_
  exact wp_loc (L2 := [some (vR 369), none, some (vI x1), some (vI 0), none, none, none]) ⟨rfl, ⟨rfl, ⟨rfl, trivial⟩⟩⟩ h
set_option maxHeartbeats 4000000 in
set_option maxRecDepth 10000 in
theorem sX12_inserts_4 {K : KK} {d : Nat} {V : Mem} {Q : Option AV → Mem → Prop} (x2 : Int) (x3 : Int) (h : ((20 < x3 → Q none V) ∧ (¬ (20 < x3) → (((0 : Int) ≤ x3 ∧ x3 < (21 : Nat)) ∧ (((V 391 (Int.toNat x3)) = 0 → (((0 : Int) ≤ x3 ∧ x3 < (21 : Nat)) ∧ (((0 : Int) ≤ (w32 ((w32 (20 * x3)) + (V 391 (Int.toNat x3)))) ∧ (w32 ((w32 (20 * x3)) + (V 391 (Int.toNat x3)))) < (420 : Nat)) ∧ (((0 : Int) ≤ x3 ∧ x3 < (21 : Nat)) ∧ (((0 : Int) ≤ x3 ∧ x3 < (21 : Nat)) ∧ Q none (upm (upm V 390 (Int.toNat (w32 ((w32 (20 * x3)) + (V 391 (Int.toNat x3))))) x2) 391 (Int.toNat x3) (w32 (((upm V 390 (Int.toNat (w32 ((w32 (20 * x3)) + (V 391 (Int.toNat x3))))) x2) 391 (Int.toNat x3)) + 1)))))))) ∧ (¬ ((V 391 (Int.toNat x3)) = 0) → (((0 : Int) ≤ x3 ∧ x3 < (21 : Nat)) ∧ (((0 : Int) ≤ (w32 ((w32 ((w32 (20 * x3)) + (V 391 (Int.toNat x3)))) - 1)) ∧ (w32 ((w32 ((w32 (20 * x3)) + (V 391 (Int.toNat x3)))) - 1)) < (420 : Nat)) ∧ Mf K d mX12_follows [vR 369, vI x2, vI (V 390 (Int.toNat (w32 ((w32 ((w32 (20 * x3)) + (V 391 (Int.toNat x3)))) - 1))))] V (fun r V3 => ∃ z3, r = some (vI z3) ∧ ((z3 = 0 → Wf K (d + 1) mX12_inserts 78 [some (vR 369), none, some (vI x2), some (vI x3), some (vI (w32 (20 * x3))), some (vI 0), none] [] V3 Q) ∧ (¬ (z3 = 0) → (((0 : Int) ≤ x3 ∧ x3 < (21 : Nat)) ∧ (((0 : Int) ≤ (w32 ((w32 (20 * x3)) + (V3 391 (Int.toNat x3)))) ∧ (w32 ((w32 (20 * x3)) + (V3 391 (Int.toNat x3)))) < (420 : Nat)) ∧ (((0 : Int) ≤ x3 ∧ x3 < (21 : Nat)) ∧ (((0 : Int) ≤ x3 ∧ x3 < (21 : Nat)) ∧ Q none (upm (upm V3 390 (Int.toNat (w32 ((w32 (20 * x3)) + (V3 391 (Int.toNat x3))))) x2) 391 (Int.toNat x3) (w32 (((upm V3 390 (Int.toNat (w32 ((w32 (20 * x3)) + (V3 391 (Int.toNat x3))))) x2) 391 (Int.toNat x3)) + 1)))))))))))))))))) : Wf K (d + 1) mX12_inserts 4 [some (vR 369), none, some (vI x2), some (vI x3), none, none, none] [] V Q := by
  refine wp_iload_n dX12_inserts_4 rfl rfl ?_
  refine wp_bipush dX12_inserts_5 (by decide) ?_
  refine wp_icmp_gt (tgt := 134) dX12_inserts_7 rfl (fun c1 => ?_) (fun c1 => ?_)
  ·
    exact wp_return dX12_inserts_134 rfl ⟨rfl, rfl⟩ ⟨rfl, (h.1 c1)⟩
  ·
    refine wp_bipush dX12_inserts_10 (by decide) ?_
    refine wp_iload_n dX12_inserts_12 rfl rfl ?_
    refine wp_imul dX12_inserts_13 ?_
    refine wp_istore dX12_inserts_14 (by decide) rfl ?_
    refine wp_aload_n dX12_inserts_16 rfl rfl ?_
    refine wp_getR (b := 391) dX12_inserts_17 fX12_124 rfl sh369 (by decide) rfl ?_
    refine wp_iload_n dX12_inserts_20 rfl rfl ?_
    refine wp_iald dX12_inserts_21 sh391 (h.2 c1).1 ?_
    refine wp_if_eq (tgt := 49) dX12_inserts_22 rfl (fun c2 => ?_) (fun c2 => ?_)
    ·
      refine wp_aload_n dX12_inserts_49 rfl rfl ?_
      refine wp_getR (b := 390) dX12_inserts_50 fX12_121 rfl sh369 (by decide) rfl ?_
      refine wp_iload dX12_inserts_53 rfl ?_
      refine wp_aload_n dX12_inserts_55 rfl rfl ?_
      refine wp_getR (b := 391) dX12_inserts_56 fX12_124 rfl sh369 (by decide) rfl ?_
      refine wp_iload_n dX12_inserts_59 rfl rfl ?_
      refine wp_iald dX12_inserts_60 sh391 ((h.2 c1).2.1 c2).1 ?_
      refine wp_iadd dX12_inserts_61 ?_
      refine wp_iload_n dX12_inserts_62 rfl rfl ?_
      refine wp_iast dX12_inserts_63 sh390 ((h.2 c1).2.1 c2).2.1 ?_
      refine wp_aload_n dX12_inserts_64 rfl rfl ?_
      refine wp_getR (b := 391) dX12_inserts_65 fX12_124 rfl sh369 (by decide) rfl ?_
      refine wp_iload_n dX12_inserts_68 rfl rfl ?_
      refine wp_dup2 dX12_inserts_69 rfl rfl ?_
      refine wp_iald dX12_inserts_70 sh391 ((h.2 c1).2.1 c2).2.2.1 ?_
      refine wp_iconst dX12_inserts_71 (by decide) ?_
      refine wp_iadd dX12_inserts_72 ?_
      refine wp_iast dX12_inserts_73 sh391 ((h.2 c1).2.1 c2).2.2.2.1 ?_
      exact wp_return dX12_inserts_74 rfl ⟨rfl, rfl⟩ ⟨rfl, ((h.2 c1).2.1 c2).2.2.2.2⟩
    ·
      refine wp_aload_n dX12_inserts_25 rfl rfl ?_
      refine wp_iload_n dX12_inserts_26 rfl rfl ?_
      refine wp_aload_n dX12_inserts_27 rfl rfl ?_
      refine wp_getR (b := 390) dX12_inserts_28 fX12_121 rfl sh369 (by decide) rfl ?_
      refine wp_iload dX12_inserts_31 rfl ?_
      refine wp_aload_n dX12_inserts_33 rfl rfl ?_
      refine wp_getR (b := 391) dX12_inserts_34 fX12_124 rfl sh369 (by decide) rfl ?_
      refine wp_iload_n dX12_inserts_37 rfl rfl ?_
      refine wp_iald dX12_inserts_38 sh391 ((h.2 c1).2.2 c2).1 ?_
      refine wp_iadd dX12_inserts_39 ?_
      refine wp_iconst dX12_inserts_40 (by decide) ?_
      refine wp_isub dX12_inserts_41 ?_
      refine wp_iald dX12_inserts_42 sh390 ((h.2 c1).2.2 c2).2.1 ?_
      refine wp_callV (S := []) (as := [vI x2, vI (V 390 (Int.toNat (w32 ((w32 ((w32 (20 * x3)) + (V 391 (Int.toNat x3)))) - 1))))]) dX12_inserts_43 lX12_314 (((h.2 c1).2.2 c2).2.2) (by omega) sh369 rfl rfl (Nat.le_of_ble_eq_true rfl) ⟨Nat.le_refl _, Nat.le_refl _⟩ ?_
      rintro _ _ V3 ⟨rfl, z3, rfl, q3⟩
      show Wp _ _ _ _ _ 46 _ [vI z3] _ _ _ _ _
      refine wp_if_eq (tgt := 75) dX12_inserts_46 rfl (fun c4 => ?_) (fun c4 => ?_)
      ·
        refine wp_iconst dX12_inserts_75 (by decide) ?_
        refine wp_istore dX12_inserts_76 (by decide) rfl ?_
        exact (q3.1 c4)
      ·
        refine wp_aload_n dX12_inserts_49 rfl rfl ?_
        refine wp_getR (b := 390) dX12_inserts_50 fX12_121 rfl sh369 (by decide) rfl ?_
        refine wp_iload dX12_inserts_53 rfl ?_
        refine wp_aload_n dX12_inserts_55 rfl rfl ?_
        refine wp_getR (b := 391) dX12_inserts_56 fX12_124 rfl sh369 (by decide) rfl ?_
        refine wp_iload_n dX12_inserts_59 rfl rfl ?_
        refine wp_iald dX12_inserts_60 sh391 (q3.2 c4).1 ?_
        refine wp_iadd dX12_inserts_61 ?_
        refine wp_iload_n dX12_inserts_62 rfl rfl ?_
        refine wp_iast dX12_inserts_63 sh390 (q3.2 c4).2.1 ?_
        refine wp_aload_n dX12_inserts_64 rfl rfl ?_
        refine wp_getR (b := 391) dX12_inserts_65 fX12_124 rfl sh369 (by decide) rfl ?_
        refine wp_iload_n dX12_inserts_68 rfl rfl ?_
        refine wp_dup2 dX12_inserts_69 rfl rfl ?_
        refine wp_iald dX12_inserts_70 sh391 (q3.2 c4).2.2.1 ?_
        refine wp_iconst dX12_inserts_71 (by decide) ?_
        refine wp_iadd dX12_inserts_72 ?_
        refine wp_iast dX12_inserts_73 sh391 (q3.2 c4).2.2.2.1 ?_
        exact wp_return dX12_inserts_74 rfl ⟨rfl, rfl⟩ ⟨rfl, (q3.2 c4).2.2.2.2⟩
set_option maxHeartbeats 4000000 in
set_option maxRecDepth 10000 in
theorem sX12_inserts_78 {K : KK} {d : Nat} {V : Mem} {Q : Option AV → Mem → Prop} (x2 : Int) (x3 : Int) (x4 : Int) (x5 : Int) (h : (((0 : Int) ≤ (w32 (x4 + x5)) ∧ (w32 (x4 + x5)) < (420 : Nat)) ∧ Mf K d mX12_follows [vR 369, vI x2, vI (V 390 (Int.toNat (w32 (x4 + x5))))] V (fun r V1 => ∃ z1, r = some (vI z1) ∧ ((z1 = 0 → (((0 : Int) ≤ (w32 (x4 + x5)) ∧ (w32 (x4 + x5)) < (420 : Nat)) ∧ (((0 : Int) ≤ (w32 (x4 + x5)) ∧ (w32 (x4 + x5)) < (420 : Nat)) ∧ Wf K (d + 1) mX12_inserts 4 [some (vR 369), none, some (vI (V1 390 (Int.toNat (w32 (x4 + x5))))), some (vI (w32 (x3 + 1))), none, none, none] [] (upm V1 390 (Int.toNat (w32 (x4 + x5))) x2) Q))) ∧ (¬ (z1 = 0) → Wf K (d + 1) mX12_inserts 78 [some (vR 369), none, some (vI x2), some (vI x3), some (vI x4), some (vI (w32 (x5 + 1))), none] [] V1 Q))))) : Wf K (d + 1) mX12_inserts 78 [some (vR 369), none, some (vI x2), some (vI x3), some (vI x4), some (vI x5), none] [] V Q := by
  refine wp_aload_n dX12_inserts_78 rfl rfl ?_
  refine wp_iload_n dX12_inserts_79 rfl rfl ?_
  refine wp_aload_n dX12_inserts_80 rfl rfl ?_
  refine wp_getR (b := 390) dX12_inserts_81 fX12_121 rfl sh369 (by decide) rfl ?_
  refine wp_iload dX12_inserts_84 rfl ?_
  refine wp_iload dX12_inserts_86 rfl ?_
  refine wp_iadd dX12_inserts_88 ?_
  refine wp_iald dX12_inserts_89 sh390 h.1 ?_
  refine wp_callV (S := []) (as := [vI x2, vI (V 390 (Int.toNat (w32 (x4 + x5))))]) dX12_inserts_90 lX12_314 (h.2) (by omega) sh369 rfl rfl (Nat.le_of_ble_eq_true rfl) ⟨Nat.le_refl _, Nat.le_refl _⟩ ?_
  rintro _ _ V1 ⟨rfl, z1, rfl, q1⟩
  show Wp _ _ _ _ _ 93 _ [vI z1] _ _ _ _ _
  refine wp_if_eq (tgt := 102) dX12_inserts_93 rfl (fun c2 => ?_) (fun c2 => ?_)
  ·
    refine wp_aload_n dX12_inserts_102 rfl rfl ?_
    refine wp_getR (b := 390) dX12_inserts_103 fX12_121 rfl sh369 (by decide) rfl ?_
    refine wp_iload dX12_inserts_106 rfl ?_
    refine wp_iload dX12_inserts_108 rfl ?_
    refine wp_iadd dX12_inserts_110 ?_
    refine wp_iald dX12_inserts_111 sh390 (q1.1 c2).1 ?_
    refine wp_istore dX12_inserts_112 (by decide) rfl ?_
    refine wp_aload_n dX12_inserts_114 rfl rfl ?_
    refine wp_getR (b := 390) dX12_inserts_115 fX12_121 rfl sh369 (by decide) rfl ?_
    refine wp_iload dX12_inserts_118 rfl ?_
    refine wp_iload dX12_inserts_120 rfl ?_
    refine wp_iadd dX12_inserts_122 ?_
    refine wp_iload_n dX12_inserts_123 rfl rfl ?_
    refine wp_iast dX12_inserts_124 sh390 (q1.1 c2).2.1 ?_
    refine wp_iload dX12_inserts_125 rfl ?_
    refine wp_istore_n dX12_inserts_127 rfl (by decide) rfl ?_
    refine wp_iinc dX12_inserts_128 rfl rfl ?_
    refine wp_goto (tgt := 4) dX12_inserts_131 rfl ?_
    exact wp_loc (L2 := [some (vR 369), none, some (vI (V1 390 (Int.toNat (w32 (x4 + x5))))), some (vI (w32 (x3 + 1))), none, none, none]) ⟨rfl, ⟨rfl, ⟨rfl, trivial⟩⟩⟩ (q1.1 c2).2.2
  ·
    refine wp_iinc dX12_inserts_96 rfl rfl ?_
    refine wp_goto (tgt := 78) dX12_inserts_99 rfl ?_
    exact (q1.2 c2)
set_option maxHeartbeats 4000000 in
set_option maxRecDepth 10000 in
theorem sX12_findsCommon {K : KK} {d : Nat} {V : Mem} {Q : Option AV → Mem → Prop} (x1 : Int) (x2 : Int) (h : Mf K d mX12_laysRow [vR 369, vI x1] V (fun r V1 => r = none ∧ Wf K (d + 1) mX12_findsCommon 13 [some (vR 369), none, some (vI x2), some (vI (V1 369 23)), some (vI 0), none, none, none, none, none] [] V1 Q)) : Mf K (d + 1) mX12_findsCommon [vR 369, vI x1, vI x2] V Q := by
  refine Mt.of2 (L := [some (vR 369), some (vI x1), some (vI x2), none, none, none, none, none, none, none]) pnX12 rfl rfl ?_
  refine wp_aload_n dX12_findsCommon_0 rfl rfl ?_
  refine wp_iload_n dX12_findsCommon_1 rfl rfl ?_
  refine wp_callV (S := []) (as := [vI x1]) dX12_findsCommon_2 lX12_324 (h) (by omega) sh369 rfl rfl (Nat.le_of_ble_eq_true rfl) ⟨Nat.le_refl _, Nat.le_refl _⟩ ?_
  rintro _ _ V1 ⟨rfl, rfl, q1⟩
  show Wp _ _ _ _ _ 5 _ [] _ _ _ _ _
  refine wp_aload_n dX12_findsCommon_5 rfl rfl ?_
  refine wp_getI dX12_findsCommon_6 fX12_304 rfl sh369 (by decide) ?_
  refine wp_istore_n dX12_findsCommon_9 rfl (by decide) rfl ?_
  refine wp_iconst dX12_findsCommon_10 (by decide) ?_
  refine wp_istore dX12_findsCommon_11 (by decide) rfl ?_
  exact wp_loc (L2 := [some (vR 369), none, some (vI x2), some (vI (V1 369 23)), some (vI 0), none, none, none, none, none]) ⟨rfl, ⟨rfl, ⟨rfl, ⟨rfl, trivial⟩⟩⟩⟩ q1
set_option maxHeartbeats 4000000 in
set_option maxRecDepth 10000 in
theorem sX12_findsCommon_13 {K : KK} {d : Nat} {V : Mem} {Q : Option AV → Mem → Prop} (x2 : Int) (x3 : Int) (x4 : Int) (h : ((x3 ≤ x4 → Mf K d mX12_laysRow [vR 369, vI x2] V (fun r V2 => r = none ∧ Wf K (d + 1) mX12_findsCommon 47 [some (vR 369), none, none, some (vI x3), some (vI 0), none, none, none, none, none] [] V2 Q)) ∧ (¬ (x3 ≤ x4) → (((0 : Int) ≤ x4 ∧ x4 < (20 : Nat)) ∧ (((0 : Int) ≤ x4 ∧ x4 < (20 : Nat)) ∧ Wf K (d + 1) mX12_findsCommon 13 [some (vR 369), none, some (vI x2), some (vI x3), some (vI (w32 (x4 + 1))), none, none, none, none, none] [] (upm V 392 (Int.toNat x4) (V 383 (Int.toNat x4))) Q))))) : Wf K (d + 1) mX12_findsCommon 13 [some (vR 369), none, some (vI x2), some (vI x3), some (vI x4), none, none, none, none, none] [] V Q := by
  refine wp_iload dX12_findsCommon_13 rfl ?_
  refine wp_iload_n dX12_findsCommon_15 rfl rfl ?_
  refine wp_icmp_ge (tgt := 39) dX12_findsCommon_16 rfl (fun c1 => ?_) (fun c1 => ?_)
  ·
    refine wp_aload_n dX12_findsCommon_39 rfl rfl ?_
    refine wp_iload_n dX12_findsCommon_40 rfl rfl ?_
    refine wp_callV (S := []) (as := [vI x2]) dX12_findsCommon_41 lX12_324 ((h.1 c1)) (by omega) sh369 rfl rfl (Nat.le_of_ble_eq_true rfl) ⟨Nat.le_refl _, Nat.le_refl _⟩ ?_
    rintro _ _ V2 ⟨rfl, rfl, q2⟩
    show Wp _ _ _ _ _ 44 _ [] _ _ _ _ _
    refine wp_iconst dX12_findsCommon_44 (by decide) ?_
    refine wp_istore dX12_findsCommon_45 (by decide) rfl ?_
    exact wp_loc (L2 := [some (vR 369), none, none, some (vI x3), some (vI 0), none, none, none, none, none]) ⟨rfl, ⟨rfl, ⟨rfl, trivial⟩⟩⟩ q2
  ·
    refine wp_aload_n dX12_findsCommon_19 rfl rfl ?_
    refine wp_getR (b := 392) dX12_findsCommon_20 fX12_127 rfl sh369 (by decide) rfl ?_
    refine wp_iload dX12_findsCommon_23 rfl ?_
    refine wp_aload_n dX12_findsCommon_25 rfl rfl ?_
    refine wp_getR (b := 383) dX12_findsCommon_26 fX12_100 rfl sh369 (by decide) rfl ?_
    refine wp_iload dX12_findsCommon_29 rfl ?_
    refine wp_iald dX12_findsCommon_31 sh383 (h.2 c1).1 ?_
    refine wp_iast dX12_findsCommon_32 sh392 (h.2 c1).2.1 ?_
    refine wp_iinc dX12_findsCommon_33 rfl rfl ?_
    refine wp_goto (tgt := 13) dX12_findsCommon_36 rfl ?_
    exact (h.2 c1).2.2
set_option maxHeartbeats 4000000 in
set_option maxRecDepth 10000 in
theorem sX12_findsCommon_47 {K : KK} {d : Nat} {V : Mem} {Q : Option AV → Mem → Prop} (x3 : Int) (x4 : Int) (h : (((V 369 23) < x4 → Q none V) ∧ (¬ ((V 369 23) < x4) → Wf K (d + 1) mX12_findsCommon 59 [some (vR 369), none, none, some (vI x3), some (vI x4), some (vI 0), none, none, none, none] [] V Q))) : Wf K (d + 1) mX12_findsCommon 47 [some (vR 369), none, none, some (vI x3), some (vI x4), none, none, none, none, none] [] V Q := by
  refine wp_iload dX12_findsCommon_47 rfl ?_
  refine wp_aload_n dX12_findsCommon_49 rfl rfl ?_
  refine wp_getI dX12_findsCommon_50 fX12_304 rfl sh369 (by decide) ?_
  refine wp_icmp_gt (tgt := 237) dX12_findsCommon_53 rfl (fun c1 => ?_) (fun c1 => ?_)
  ·
    exact wp_return dX12_findsCommon_237 rfl ⟨rfl, rfl⟩ ⟨rfl, (h.1 c1)⟩
  ·
    refine wp_iconst dX12_findsCommon_56 (by decide) ?_
    refine wp_istore dX12_findsCommon_57 (by decide) rfl ?_
    exact (h.2 c1)
set_option maxHeartbeats 4000000 in
set_option maxRecDepth 10000 in
theorem sX12_findsCommon_59 {K : KK} {d : Nat} {V : Mem} {Q : Option AV → Mem → Prop} (x3 : Int) (x4 : Int) (x5 : Int) (h : ((x3 < x5 → (((0 : Int) ≤ (w32 ((w32 (21 * x4)) + x4)) ∧ (w32 ((w32 (21 * x4)) + x4)) < (441 : Nat)) ∧ Wf K (d + 1) mX12_findsCommon 99 [some (vR 369), none, none, some (vI x3), some (vI x4), some (vI (w32 (x4 + 1))), none, none, none, none] [] (upm V 384 (Int.toNat (w32 ((w32 (21 * x4)) + x4))) 0) Q)) ∧ (¬ (x3 < x5) → (((0 : Int) ≤ x5 ∧ x5 < (21 : Nat)) ∧ Wf K (d + 1) mX12_findsCommon 59 [some (vR 369), none, none, some (vI x3), some (vI x4), some (vI (w32 (x5 + 1))), none, none, none, none] [] (upm V 393 (Int.toNat x5) 0) Q)))) : Wf K (d + 1) mX12_findsCommon 59 [some (vR 369), none, none, some (vI x3), some (vI x4), some (vI x5), none, none, none, none] [] V Q := by
  refine wp_iload dX12_findsCommon_59 rfl ?_
  refine wp_iload_n dX12_findsCommon_61 rfl rfl ?_
  refine wp_icmp_gt (tgt := 79) dX12_findsCommon_62 rfl (fun c1 => ?_) (fun c1 => ?_)
  ·
    refine wp_aload_n dX12_findsCommon_79 rfl rfl ?_
    refine wp_getR (b := 384) dX12_findsCommon_80 fX12_103 rfl sh369 (by decide) rfl ?_
    refine wp_bipush dX12_findsCommon_83 (by decide) ?_
    refine wp_iload dX12_findsCommon_85 rfl ?_
    refine wp_imul dX12_findsCommon_87 ?_
    refine wp_iload dX12_findsCommon_88 rfl ?_
    refine wp_iadd dX12_findsCommon_90 ?_
    refine wp_iconst dX12_findsCommon_91 (by decide) ?_
    refine wp_iast dX12_findsCommon_92 sh384 (h.1 c1).1 ?_
    refine wp_iload dX12_findsCommon_93 rfl ?_
    refine wp_iconst dX12_findsCommon_95 (by decide) ?_
    refine wp_iadd dX12_findsCommon_96 ?_
    refine wp_istore dX12_findsCommon_97 (by decide) rfl ?_
    exact (h.1 c1).2
  ·
    refine wp_aload_n dX12_findsCommon_65 rfl rfl ?_
    refine wp_getR (b := 393) dX12_findsCommon_66 fX12_130 rfl sh369 (by decide) rfl ?_
    refine wp_iload dX12_findsCommon_69 rfl ?_
    refine wp_iconst dX12_findsCommon_71 (by decide) ?_
    refine wp_iast dX12_findsCommon_72 sh393 (h.2 c1).1 ?_
    refine wp_iinc dX12_findsCommon_73 rfl rfl ?_
    refine wp_goto (tgt := 59) dX12_findsCommon_76 rfl ?_
    exact (h.2 c1).2
set_option maxHeartbeats 4000000 in
set_option maxRecDepth 10000 in
theorem sX12_findsCommon_99 {K : KK} {d : Nat} {V : Mem} {Q : Option AV → Mem → Prop} (x3 : Int) (x4 : Int) (x5 : Int) (h : (((V 369 23) < x5 → Wf K (d + 1) mX12_findsCommon 47 [some (vR 369), none, none, some (vI x3), some (vI (w32 (x4 + 1))), none, none, none, none, none] [] V Q) ∧ (¬ ((V 369 23) < x5) → Wf K (d + 1) mX12_findsCommon 114 [some (vR 369), none, none, some (vI x3), some (vI x4), some (vI x5), some (vI 0), some (vI 1), none, none] [] V Q))) : Wf K (d + 1) mX12_findsCommon 99 [some (vR 369), none, none, some (vI x3), some (vI x4), some (vI x5), none, none, none, none] [] V Q := by
  refine wp_iload dX12_findsCommon_99 rfl ?_
  refine wp_aload_n dX12_findsCommon_101 rfl rfl ?_
  refine wp_getI dX12_findsCommon_102 fX12_304 rfl sh369 (by decide) ?_
  refine wp_icmp_gt (tgt := 231) dX12_findsCommon_105 rfl (fun c1 => ?_) (fun c1 => ?_)
  ·
    refine wp_iinc dX12_findsCommon_231 rfl rfl ?_
    refine wp_goto (tgt := 47) dX12_findsCommon_234 rfl ?_
    exact wp_loc (L2 := [some (vR 369), none, none, some (vI x3), some (vI (w32 (x4 + 1))), none, none, none, none, none]) ⟨rfl, ⟨rfl, ⟨rfl, trivial⟩⟩⟩ (h.1 c1)
  ·
    refine wp_iconst dX12_findsCommon_108 (by decide) ?_
    refine wp_istore dX12_findsCommon_109 (by decide) rfl ?_
    refine wp_iconst dX12_findsCommon_111 (by decide) ?_
    refine wp_istore dX12_findsCommon_112 (by decide) rfl ?_
    exact (h.2 c1)
set_option maxHeartbeats 4000000 in
set_option maxRecDepth 10000 in
theorem sX12_findsCommon_114 {K : KK} {d : Nat} {V : Mem} {Q : Option AV → Mem → Prop} (x3 : Int) (x4 : Int) (x5 : Int) (x6 : Int) (x7 : Int) (h : ((x3 < x7 → (((0 : Int) ≤ x3 ∧ x3 < (21 : Nat)) ∧ (((0 : Int) ≤ (w32 ((w32 (21 * x4)) + x5)) ∧ (w32 ((w32 (21 * x4)) + x5)) < (441 : Nat)) ∧ Wf K (d + 1) mX12_findsCommon 99 [some (vR 369), none, none, some (vI x3), some (vI x4), some (vI (w32 (x5 + 1))), none, none, none, none] [] (upm V 384 (Int.toNat (w32 ((w32 (21 * x4)) + x5))) (V 393 (Int.toNat x3))) Q))) ∧ (¬ (x3 < x7) → (((0 : Int) ≤ x7 ∧ x7 < (21 : Nat)) ∧ (((0 : Int) ≤ (w32 (x7 - 1)) ∧ (w32 (x7 - 1)) < (20 : Nat)) ∧ (((0 : Int) ≤ (w32 (x5 - 1)) ∧ (w32 (x5 - 1)) < (20 : Nat)) ∧ ((¬ (V 392 (Int.toNat (w32 (x7 - 1)))) = (V 383 (Int.toNat (w32 (x5 - 1)))) → (((0 : Int) ≤ (w32 (x7 - 1)) ∧ (w32 (x7 - 1)) < (21 : Nat)) ∧ (((V 393 (Int.toNat x7)) ≤ (V 393 (Int.toNat (w32 (x7 - 1)))) → (((0 : Int) ≤ (w32 (x7 - 1)) ∧ (w32 (x7 - 1)) < (21 : Nat)) ∧ Wf K (d + 1) mX12_findsCommon 185 [some (vR 369), none, none, some (vI x3), some (vI x4), some (vI x5), none, some (vI x7), some (vI (V 393 (Int.toNat x7))), none] [vI (V 393 (Int.toNat (w32 (x7 - 1))))] V Q)) ∧ (¬ ((V 393 (Int.toNat x7)) ≤ (V 393 (Int.toNat (w32 (x7 - 1))))) → Wf K (d + 1) mX12_findsCommon 185 [some (vR 369), none, none, some (vI x3), some (vI x4), some (vI x5), none, some (vI x7), some (vI (V 393 (Int.toNat x7))), none] [vI (V 393 (Int.toNat x7))] V Q)))) ∧ ((V 392 (Int.toNat (w32 (x7 - 1)))) = (V 383 (Int.toNat (w32 (x5 - 1)))) → Wf K (d + 1) mX12_findsCommon 185 [some (vR 369), none, none, some (vI x3), some (vI x4), some (vI x5), none, some (vI x7), some (vI (V 393 (Int.toNat x7))), none] [vI (w32 (x6 + 1))] V Q)))))))) : Wf K (d + 1) mX12_findsCommon 114 [some (vR 369), none, none, some (vI x3), some (vI x4), some (vI x5), some (vI x6), some (vI x7), none, none] [] V Q := by
  refine wp_iload dX12_findsCommon_114 rfl ?_
  refine wp_iload_n dX12_findsCommon_116 rfl rfl ?_
  refine wp_icmp_gt (tgt := 206) dX12_findsCommon_117 rfl (fun c1 => ?_) (fun c1 => ?_)
  ·
    refine wp_aload_n dX12_findsCommon_206 rfl rfl ?_
    refine wp_getR (b := 384) dX12_findsCommon_207 fX12_103 rfl sh369 (by decide) rfl ?_
    refine wp_bipush dX12_findsCommon_210 (by decide) ?_
    refine wp_iload dX12_findsCommon_212 rfl ?_
    refine wp_imul dX12_findsCommon_214 ?_
    refine wp_iload dX12_findsCommon_215 rfl ?_
    refine wp_iadd dX12_findsCommon_217 ?_
    refine wp_aload_n dX12_findsCommon_218 rfl rfl ?_
    refine wp_getR (b := 393) dX12_findsCommon_219 fX12_130 rfl sh369 (by decide) rfl ?_
    refine wp_iload_n dX12_findsCommon_222 rfl rfl ?_
    refine wp_iald dX12_findsCommon_223 sh393 (h.1 c1).1 ?_
    refine wp_iast dX12_findsCommon_224 sh384 (h.1 c1).2.1 ?_
    refine wp_iinc dX12_findsCommon_225 rfl rfl ?_
    refine wp_goto (tgt := 99) dX12_findsCommon_228 rfl ?_
    exact wp_loc (L2 := [some (vR 369), none, none, some (vI x3), some (vI x4), some (vI (w32 (x5 + 1))), none, none, none, none]) ⟨rfl, ⟨rfl, ⟨rfl, ⟨rfl, trivial⟩⟩⟩⟩ (h.1 c1).2.2
  ·
    refine wp_aload_n dX12_findsCommon_120 rfl rfl ?_
    refine wp_getR (b := 393) dX12_findsCommon_121 fX12_130 rfl sh369 (by decide) rfl ?_
    refine wp_iload dX12_findsCommon_124 rfl ?_
    refine wp_iald dX12_findsCommon_126 sh393 (h.2 c1).1 ?_
    refine wp_istore dX12_findsCommon_127 (by decide) rfl ?_
    refine wp_aload_n dX12_findsCommon_129 rfl rfl ?_
    refine wp_getR (b := 392) dX12_findsCommon_130 fX12_127 rfl sh369 (by decide) rfl ?_
    refine wp_iload dX12_findsCommon_133 rfl ?_
    refine wp_iconst dX12_findsCommon_135 (by decide) ?_
    refine wp_isub dX12_findsCommon_136 ?_
    refine wp_iald dX12_findsCommon_137 sh392 (h.2 c1).2.1 ?_
    refine wp_aload_n dX12_findsCommon_138 rfl rfl ?_
    refine wp_getR (b := 383) dX12_findsCommon_139 fX12_100 rfl sh369 (by decide) rfl ?_
    refine wp_iload dX12_findsCommon_142 rfl ?_
    refine wp_iconst dX12_findsCommon_144 (by decide) ?_
    refine wp_isub dX12_findsCommon_145 ?_
    refine wp_iald dX12_findsCommon_146 sh383 (h.2 c1).2.2.1 ?_
    refine wp_icmp_ne (tgt := 157) dX12_findsCommon_147 rfl (fun c2 => ?_) (fun c2 => ?_)
    ·
      refine wp_iload dX12_findsCommon_157 rfl ?_
      refine wp_aload_n dX12_findsCommon_159 rfl rfl ?_
      refine wp_getR (b := 393) dX12_findsCommon_160 fX12_130 rfl sh369 (by decide) rfl ?_
      refine wp_iload dX12_findsCommon_163 rfl ?_
      refine wp_iconst dX12_findsCommon_165 (by decide) ?_
      refine wp_isub dX12_findsCommon_166 ?_
      refine wp_iald dX12_findsCommon_167 sh393 ((h.2 c1).2.2.2.1 c2).1 ?_
      refine wp_icmp_le (tgt := 176) dX12_findsCommon_168 rfl (fun c3 => ?_) (fun c3 => ?_)
      ·
        refine wp_aload_n dX12_findsCommon_176 rfl rfl ?_
        refine wp_getR (b := 393) dX12_findsCommon_177 fX12_130 rfl sh369 (by decide) rfl ?_
        refine wp_iload dX12_findsCommon_180 rfl ?_
        refine wp_iconst dX12_findsCommon_182 (by decide) ?_
        refine wp_isub dX12_findsCommon_183 ?_
        refine wp_iald dX12_findsCommon_184 sh393 (((h.2 c1).2.2.2.1 c2).2.1 c3).1 ?_
        exact wp_loc (L2 := [some (vR 369), none, none, some (vI x3), some (vI x4), some (vI x5), none, some (vI x7), some (vI (V 393 (Int.toNat x7))), none]) ⟨rfl, ⟨rfl, ⟨rfl, ⟨rfl, ⟨rfl, ⟨rfl, trivial⟩⟩⟩⟩⟩⟩ (((h.2 c1).2.2.2.1 c2).2.1 c3).2
      ·
        refine wp_iload dX12_findsCommon_171 rfl ?_
        refine wp_goto (tgt := 185) dX12_findsCommon_173 rfl ?_
        exact wp_loc (L2 := [some (vR 369), none, none, some (vI x3), some (vI x4), some (vI x5), none, some (vI x7), some (vI (V 393 (Int.toNat x7))), none]) ⟨rfl, ⟨rfl, ⟨rfl, ⟨rfl, ⟨rfl, ⟨rfl, trivial⟩⟩⟩⟩⟩⟩ (((h.2 c1).2.2.2.1 c2).2.2 c3)
    ·
      refine wp_iload dX12_findsCommon_150 rfl ?_
      refine wp_iconst dX12_findsCommon_152 (by decide) ?_
      refine wp_iadd dX12_findsCommon_153 ?_
      refine wp_goto (tgt := 185) dX12_findsCommon_154 rfl ?_
      exact wp_loc (L2 := [some (vR 369), none, none, some (vI x3), some (vI x4), some (vI x5), none, some (vI x7), some (vI (V 393 (Int.toNat x7))), none]) ⟨rfl, ⟨rfl, ⟨rfl, ⟨rfl, ⟨rfl, ⟨rfl, trivial⟩⟩⟩⟩⟩⟩ ((h.2 c1).2.2.2.2 c2)
set_option maxHeartbeats 4000000 in
set_option maxRecDepth 10000 in
theorem sX12_findsCommon_185 {K : KK} {d : Nat} {V : Mem} {Q : Option AV → Mem → Prop} (x3 : Int) (x4 : Int) (x5 : Int) (x7 : Int) (x8 : Int) (s0 : Int) (h : (((0 : Int) ≤ x7 ∧ x7 < (21 : Nat)) ∧ Wf K (d + 1) mX12_findsCommon 114 [some (vR 369), none, none, some (vI x3), some (vI x4), some (vI x5), some (vI x8), some (vI (w32 (x7 + 1))), none, none] [] (upm V 393 (Int.toNat x7) s0) Q)) : Wf K (d + 1) mX12_findsCommon 185 [some (vR 369), none, none, some (vI x3), some (vI x4), some (vI x5), none, some (vI x7), some (vI x8), none] [vI s0] V Q := by
  refine wp_istore dX12_findsCommon_185 (by decide) rfl ?_
  refine wp_aload_n dX12_findsCommon_187 rfl rfl ?_
  refine wp_getR (b := 393) dX12_findsCommon_188 fX12_130 rfl sh369 (by decide) rfl ?_
  refine wp_iload dX12_findsCommon_191 rfl ?_
  refine wp_iload dX12_findsCommon_193 rfl ?_
  refine wp_iast dX12_findsCommon_195 sh393 h.1 ?_
  refine wp_iload dX12_findsCommon_196 rfl ?_
  refine wp_istore dX12_findsCommon_198 (by decide) rfl ?_
  refine wp_iinc dX12_findsCommon_200 rfl rfl ?_
  refine wp_goto (tgt := 114) dX12_findsCommon_203 rfl ?_
  exact wp_loc (L2 := [some (vR 369), none, none, some (vI x3), some (vI x4), some (vI x5), some (vI x8), some (vI (w32 (x7 + 1))), none, none]) ⟨rfl, ⟨rfl, ⟨rfl, ⟨rfl, ⟨rfl, ⟨rfl, trivial⟩⟩⟩⟩⟩⟩ h.2
set_option maxHeartbeats 4000000 in
set_option maxRecDepth 10000 in
theorem sX12_common {K : KK} {d : Nat} {V : Mem} {Q : Option AV → Mem → Prop} (x1 : Int) (x2 : Int) (x3 : Int) (x4 : Int) (h : Mf K d mX12_isRow [vR 369, vI x1] (upm V 369 0 0) (fun r V1 => ∃ z1, r = some (vI z1) ∧ ((z1 = 0 → Q (some (vI (-1))) V1) ∧ (¬ (z1 = 0) → Mf K d mX12_isWindow [vR 369, vI x2, vI x3, vI x4] V1 (fun r V3 => ∃ z3, r = some (vI z3) ∧ ((¬ z3 = 0 → Mf K d mX12_findsCommon [vR 369, vI x1, vI x2] V3 (fun r V5 => r = none ∧ (((0 : Int) ≤ (w32 ((w32 (21 * x3)) + x4)) ∧ (w32 ((w32 (21 * x3)) + x4)) < (441 : Nat)) ∧ Q (some (vI (V5 384 (Int.toNat (w32 ((w32 (21 * x3)) + x4)))))) V5))) ∧ (z3 = 0 → Q (some (vI (-1))) V3))))))) : Mf K (d + 1) mX12_common [vR 369, vI x1, vI x2, vI x3, vI x4] V Q := by
  refine Mt.of2 (L := [some (vR 369), some (vI x1), some (vI x2), some (vI x3), some (vI x4)]) pnX12 rfl rfl ?_
  refine wp_aload_n dX12_common_0 rfl rfl ?_
  refine wp_iconst dX12_common_1 (by decide) ?_
  refine wp_putI dX12_common_2 fwX12_1 rfl sh369 (by decide) ?_
  refine wp_aload_n dX12_common_5 rfl rfl ?_
  refine wp_iload_n dX12_common_6 rfl rfl ?_
  refine wp_callV (S := []) (as := [vI x1]) dX12_common_7 lX12_289 (h) (by omega) sh369 rfl rfl (Nat.le_of_ble_eq_true rfl) ⟨Nat.le_refl _, Nat.le_refl _⟩ ?_
  rintro _ _ V1 ⟨rfl, z1, rfl, q1⟩
  show Wp _ _ _ _ _ 10 _ [vI z1] _ _ _ _ _
  refine wp_if_eq (tgt := 24) dX12_common_10 rfl (fun c2 => ?_) (fun c2 => ?_)
  ·
    refine wp_iconst dX12_common_24 (by decide) ?_
    exact wp_ireturn dX12_common_25 rfl ⟨rfl, rfl⟩ ⟨rfl, (q1.1 c2)⟩
  ·
    refine wp_aload_n dX12_common_13 rfl rfl ?_
    refine wp_iload_n dX12_common_14 rfl rfl ?_
    refine wp_iload_n dX12_common_15 rfl rfl ?_
    refine wp_iload dX12_common_16 rfl ?_
    refine wp_callV (S := []) (as := [vI x2, vI x3, vI x4]) dX12_common_18 lX12_330 ((q1.2 c2)) (by omega) sh369 rfl rfl (Nat.le_of_ble_eq_true rfl) ⟨Nat.le_refl _, Nat.le_refl _⟩ ?_
    rintro _ _ V3 ⟨rfl, z3, rfl, q3⟩
    show Wp _ _ _ _ _ 21 _ [vI z3] _ _ _ _ _
    refine wp_if_ne (tgt := 26) dX12_common_21 rfl (fun c4 => ?_) (fun c4 => ?_)
    ·
      refine wp_aload_n dX12_common_26 rfl rfl ?_
      refine wp_iload_n dX12_common_27 rfl rfl ?_
      refine wp_iload_n dX12_common_28 rfl rfl ?_
      refine wp_callV (S := []) (as := [vI x1, vI x2]) dX12_common_29 lX12_364 ((q3.1 c4)) (by omega) sh369 rfl rfl (Nat.le_of_ble_eq_true rfl) ⟨Nat.le_refl _, Nat.le_refl _⟩ ?_
      rintro _ _ V5 ⟨rfl, rfl, q5⟩
      show Wp _ _ _ _ _ 32 _ [] _ _ _ _ _
      refine wp_aload_n dX12_common_32 rfl rfl ?_
      refine wp_iload_n dX12_common_33 rfl rfl ?_
      refine wp_iload dX12_common_34 rfl ?_
      refine wp_inlV (d' := d) (S := []) (as := [vI x3, vI x4]) dX12_common_36 lX12_321 (by omega) sh369 rfl rfl (Nat.le_of_ble_eq_true rfl) ⟨Nat.le_refl _, Nat.le_refl _⟩ (Mt.of2 (L := [some (vR 369), some (vI x3), some (vI x4)]) pnX12 rfl rfl ?_)
      refine wp_aload_n dX12_longAt_0 rfl rfl ?_
      refine wp_getR (b := 384) dX12_longAt_1 fX12_103 rfl sh369 (by decide) rfl ?_
      refine wp_bipush dX12_longAt_4 (by decide) ?_
      refine wp_iload_n dX12_longAt_6 rfl rfl ?_
      refine wp_imul dX12_longAt_7 ?_
      refine wp_iload_n dX12_longAt_8 rfl rfl ?_
      refine wp_iadd dX12_longAt_9 ?_
      refine wp_iald dX12_longAt_10 sh384 q5.1 ?_
      refine wp_ireturn dX12_longAt_11 rfl ⟨rfl, rfl⟩ ?_
      show Wp _ _ _ _ _ 39 _ [vI (V5 384 (Int.toNat (w32 ((w32 (21 * x3)) + x4))))] _ _ _ _ _
      exact wp_ireturn dX12_common_39 rfl ⟨rfl, rfl⟩ ⟨rfl, q5.2⟩
    ·
      refine wp_iconst dX12_common_24 (by decide) ?_
      exact wp_ireturn dX12_common_25 rfl ⟨rfl, rfl⟩ ⟨rfl, (q3.2 c4)⟩
set_option maxHeartbeats 4000000 in
set_option maxRecDepth 10000 in
theorem sX12_meets {K : KK} {d : Nat} {V : Mem} {Q : Option AV → Mem → Prop} (x1 : Int) (x2 : Int) (x3 : Int) (h : Mf K d mX12_isRow [vR 369, vI x1] (upm V 369 0 0) (fun r V1 => ∃ z1, r = some (vI z1) ∧ ((z1 = 0 → Q (some (vI (-1))) V1) ∧ (¬ (z1 = 0) → Mf K d mX12_isPlace [vR 369, vI x2, vI x3] V1 (fun r V3 => ∃ z3, r = some (vI z3) ∧ ((¬ z3 = 0 → Mf K d mX12_findsCommon [vR 369, vI x1, vI x2] V3 (fun r V5 => r = none ∧ Mf K d mX12_strandOf [vR 369, vI x3] V5 (fun r V6 => ∃ z6, r = some (vI z6) ∧ Q (some (vI z6)) V6))) ∧ (z3 = 0 → Q (some (vI (-1))) V3))))))) : Mf K (d + 1) mX12_meets [vR 369, vI x1, vI x2, vI x3] V Q := by
  refine Mt.of2 (L := [some (vR 369), some (vI x1), some (vI x2), some (vI x3)]) pnX12 rfl rfl ?_
  refine wp_aload_n dX12_meets_0 rfl rfl ?_
  refine wp_iconst dX12_meets_1 (by decide) ?_
  refine wp_putI dX12_meets_2 fwX12_1 rfl sh369 (by decide) ?_
  refine wp_aload_n dX12_meets_5 rfl rfl ?_
  refine wp_iload_n dX12_meets_6 rfl rfl ?_
  refine wp_callV (S := []) (as := [vI x1]) dX12_meets_7 lX12_289 (h) (by omega) sh369 rfl rfl (Nat.le_of_ble_eq_true rfl) ⟨Nat.le_refl _, Nat.le_refl _⟩ ?_
  rintro _ _ V1 ⟨rfl, z1, rfl, q1⟩
  show Wp _ _ _ _ _ 10 _ [vI z1] _ _ _ _ _
  refine wp_if_eq (tgt := 22) dX12_meets_10 rfl (fun c2 => ?_) (fun c2 => ?_)
  ·
    refine wp_iconst dX12_meets_22 (by decide) ?_
    exact wp_ireturn dX12_meets_23 rfl ⟨rfl, rfl⟩ ⟨rfl, (q1.1 c2)⟩
  ·
    refine wp_aload_n dX12_meets_13 rfl rfl ?_
    refine wp_iload_n dX12_meets_14 rfl rfl ?_
    refine wp_iload_n dX12_meets_15 rfl rfl ?_
    refine wp_callV (S := []) (as := [vI x2, vI x3]) dX12_meets_16 lX12_352 ((q1.2 c2)) (by omega) sh369 rfl rfl (Nat.le_of_ble_eq_true rfl) ⟨Nat.le_refl _, Nat.le_refl _⟩ ?_
    rintro _ _ V3 ⟨rfl, z3, rfl, q3⟩
    show Wp _ _ _ _ _ 19 _ [vI z3] _ _ _ _ _
    refine wp_if_ne (tgt := 24) dX12_meets_19 rfl (fun c4 => ?_) (fun c4 => ?_)
    ·
      refine wp_aload_n dX12_meets_24 rfl rfl ?_
      refine wp_iload_n dX12_meets_25 rfl rfl ?_
      refine wp_iload_n dX12_meets_26 rfl rfl ?_
      refine wp_callV (S := []) (as := [vI x1, vI x2]) dX12_meets_27 lX12_364 ((q3.1 c4)) (by omega) sh369 rfl rfl (Nat.le_of_ble_eq_true rfl) ⟨Nat.le_refl _, Nat.le_refl _⟩ ?_
      rintro _ _ V5 ⟨rfl, rfl, q5⟩
      show Wp _ _ _ _ _ 30 _ [] _ _ _ _ _
      refine wp_aload_n dX12_meets_30 rfl rfl ?_
      refine wp_iload_n dX12_meets_31 rfl rfl ?_
      refine wp_callV (S := []) (as := [vI x3]) dX12_meets_32 lX12_355 (q5) (by omega) sh369 rfl rfl (Nat.le_of_ble_eq_true rfl) ⟨Nat.le_refl _, Nat.le_refl _⟩ ?_
      rintro _ _ V6 ⟨rfl, z6, rfl, q6⟩
      show Wp _ _ _ _ _ 35 _ [vI z6] _ _ _ _ _
      exact wp_ireturn dX12_meets_35 rfl ⟨rfl, rfl⟩ ⟨rfl, q6⟩
    ·
      refine wp_iconst dX12_meets_22 (by decide) ?_
      exact wp_ireturn dX12_meets_23 rfl ⟨rfl, rfl⟩ ⟨rfl, (q3.2 c4)⟩
set_option maxHeartbeats 4000000 in
set_option maxRecDepth 10000 in
theorem sX12_countOf {K : KK} {d : Nat} {V : Mem} {Q : Option AV → Mem → Prop} (a0 n0 : Nat) (x1 : Int) (x2 : Int) (x3 : Int) (h0 : SH[a0]? = some (14, n0, [])) (g0 : n0 < 2147483648) (h : Wf K d mX12_countOf 6 [some (vR a0), some (vI x1), none, some (vI x3), some (vI 0), some (vI x2)] [] V Q) : Mf K d mX12_countOf [vR a0, vI x1, vI x2, vI x3] V Q := by
  refine Mt.of2 (L := [some (vR a0), some (vI x1), some (vI x2), some (vI x3), none, none]) pnX12 rfl rfl ?_
  refine wp_iconst dX12_countOf_0 (by decide) ?_
  refine wp_istore dX12_countOf_1 (by decide) rfl ?_
  refine wp_iload_n dX12_countOf_3 rfl rfl ?_
  refine wp_istore dX12_countOf_4 (by decide) rfl ?_
  exact wp_loc (L2 := [some (vR a0), some (vI x1), none, some (vI x3), some (vI 0), some (vI x2)]) ⟨rfl, ⟨rfl, ⟨rfl, ⟨rfl, ⟨rfl, trivial⟩⟩⟩⟩⟩ h
set_option maxHeartbeats 4000000 in
set_option maxRecDepth 10000 in
theorem sX12_countOf_6 {K : KK} {d : Nat} {V : Mem} {Q : Option AV → Mem → Prop} (a0 n0 : Nat) (x1 : Int) (x3 : Int) (x4 : Int) (x5 : Int) (h0 : SH[a0]? = some (14, n0, [])) (g0 : n0 < 2147483648) (h : ((x1 ≤ x5 → Q (some (vI x4)) V) ∧ (¬ (x1 ≤ x5) → (((0 : Int) ≤ x5 ∧ x5 < (n0 : Nat)) ∧ ((x3 ≤ (V a0 (Int.toNat x5)) → Wf K d mX12_countOf 6 [some (vR a0), some (vI x1), none, some (vI x3), some (vI (w32 (x4 + 0))), some (vI (w32 (x5 + 1)))] [] V Q) ∧ (¬ (x3 ≤ (V a0 (Int.toNat x5))) → Wf K d mX12_countOf 6 [some (vR a0), some (vI x1), none, some (vI x3), some (vI (w32 (x4 + 1))), some (vI (w32 (x5 + 1)))] [] V Q)))))) : Wf K d mX12_countOf 6 [some (vR a0), some (vI x1), none, some (vI x3), some (vI x4), some (vI x5)] [] V Q := by
  refine wp_iload dX12_countOf_6 rfl ?_
  refine wp_iload_n dX12_countOf_8 rfl rfl ?_
  refine wp_icmp_ge (tgt := 36) dX12_countOf_9 rfl (fun c1 => ?_) (fun c1 => ?_)
  ·
    refine wp_iload dX12_countOf_36 rfl ?_
    exact wp_ireturn dX12_countOf_38 rfl ⟨rfl, rfl⟩ ⟨rfl, (h.1 c1)⟩
  ·
    refine wp_iload dX12_countOf_12 rfl ?_
    refine wp_aload_n dX12_countOf_14 rfl rfl ?_
    refine wp_iload dX12_countOf_15 rfl ?_
    refine wp_iald dX12_countOf_17 h0 (h.2 c1).1 ?_
    refine wp_iload_n dX12_countOf_18 rfl rfl ?_
    refine wp_icmp_ge (tgt := 26) dX12_countOf_19 rfl (fun c2 => ?_) (fun c2 => ?_)
    ·
      refine wp_iconst dX12_countOf_26 (by decide) ?_
      refine wp_iadd dX12_countOf_27 ?_
      refine wp_istore dX12_countOf_28 (by decide) rfl ?_
      refine wp_iinc dX12_countOf_30 rfl rfl ?_
      refine wp_goto (tgt := 6) dX12_countOf_33 rfl ?_
      exact ((h.2 c1).2.1 c2)
    ·
      refine wp_iconst dX12_countOf_22 (by decide) ?_
      refine wp_goto (tgt := 27) dX12_countOf_23 rfl ?_
      refine wp_iadd dX12_countOf_27 ?_
      refine wp_istore dX12_countOf_28 (by decide) rfl ?_
      refine wp_iinc dX12_countOf_30 rfl rfl ?_
      refine wp_goto (tgt := 6) dX12_countOf_33 rfl ?_
      exact ((h.2 c1).2.2 c2)
set_option maxHeartbeats 4000000 in
set_option maxRecDepth 10000 in
theorem sX12_laysCounts {K : KK} {d : Nat} {V : Mem} {Q : Option AV → Mem → Prop} (a0 n0 : Nat) (x1 : Int) (a2 n2 : Nat) (h0 : SH[a0]? = some (14, n0, [])) (g0 : n0 < 2147483648) (h2 : SH[a2]? = some (14, n2, [])) (g2 : n2 < 2147483648) (h : Wf K (d + 1) mX12_laysCounts 2 [some (vR a0), some (vI x1), some (vR a2), some (vI 0), none] [] V Q) : Mf K (d + 1) mX12_laysCounts [vR a0, vI x1, vR a2] V Q := by
  refine Mt.of2 (L := [some (vR a0), some (vI x1), some (vR a2), none, none]) pnX12 rfl rfl ?_
  refine wp_iconst dX12_laysCounts_0 (by decide) ?_
  refine wp_istore_n dX12_laysCounts_1 rfl (by decide) rfl ?_
  exact h
set_option maxHeartbeats 4000000 in
set_option maxRecDepth 10000 in
theorem sX12_laysCounts_2 {K : KK} {d : Nat} {V : Mem} {Q : Option AV → Mem → Prop} (a0 n0 : Nat) (a2 n2 : Nat) (x1 : Int) (x3 : Int) (h0 : SH[a0]? = some (14, n0, [])) (g0 : n0 < 2147483648) (h2 : SH[a2]? = some (14, n2, [])) (g2 : n2 < 2147483648) (h : ((x1 < x3 → Q none V) ∧ (¬ (x1 < x3) → Wf K (d + 1) mX12_laysCounts 10 [some (vR a0), some (vI x1), some (vR a2), some (vI x3), some (vI 0)] [] V Q))) : Wf K (d + 1) mX12_laysCounts 2 [some (vR a0), some (vI x1), some (vR a2), some (vI x3), none] [] V Q := by
  refine wp_iload_n dX12_laysCounts_2 rfl rfl ?_
  refine wp_iload_n dX12_laysCounts_3 rfl rfl ?_
  refine wp_icmp_gt (tgt := 45) dX12_laysCounts_4 rfl (fun c1 => ?_) (fun c1 => ?_)
  ·
    exact wp_return dX12_laysCounts_45 rfl ⟨rfl, rfl⟩ ⟨rfl, (h.1 c1)⟩
  ·
    refine wp_iconst dX12_laysCounts_7 (by decide) ?_
    refine wp_istore dX12_laysCounts_8 (by decide) rfl ?_
    exact (h.2 c1)
set_option maxHeartbeats 4000000 in
set_option maxRecDepth 10000 in
theorem sX12_laysCounts_10 {K : KK} {d : Nat} {V : Mem} {Q : Option AV → Mem → Prop} (a0 n0 : Nat) (a2 n2 : Nat) (x1 : Int) (x3 : Int) (x4 : Int) (h0 : SH[a0]? = some (14, n0, [])) (g0 : n0 < 2147483648) (h2 : SH[a2]? = some (14, n2, [])) (g2 : n2 < 2147483648) (h : ((x1 < x4 → Wf K (d + 1) mX12_laysCounts 2 [some (vR a0), some (vI x1), some (vR a2), some (vI (w32 (x3 + 1))), none] [] V Q) ∧ (¬ (x1 < x4) → Mf K d mX12_countOf [vR a0, vI x1, vI x3, vI x4] V (fun r V2 => ∃ z2, r = some (vI z2) ∧ (((0 : Int) ≤ (w32 ((w32 (11 * x3)) + x4)) ∧ (w32 ((w32 (11 * x3)) + x4)) < (n2 : Nat)) ∧ Wf K (d + 1) mX12_laysCounts 10 [some (vR a0), some (vI x1), some (vR a2), some (vI x3), some (vI (w32 (x4 + 1)))] [] (upm V2 a2 (Int.toNat (w32 ((w32 (11 * x3)) + x4))) z2) Q))))) : Wf K (d + 1) mX12_laysCounts 10 [some (vR a0), some (vI x1), some (vR a2), some (vI x3), some (vI x4)] [] V Q := by
  refine wp_iload dX12_laysCounts_10 rfl ?_
  refine wp_iload_n dX12_laysCounts_12 rfl rfl ?_
  refine wp_icmp_gt (tgt := 39) dX12_laysCounts_13 rfl (fun c1 => ?_) (fun c1 => ?_)
  ·
    refine wp_iinc dX12_laysCounts_39 rfl rfl ?_
    refine wp_goto (tgt := 2) dX12_laysCounts_42 rfl ?_
    exact wp_loc (L2 := [some (vR a0), some (vI x1), some (vR a2), some (vI (w32 (x3 + 1))), none]) ⟨rfl, ⟨rfl, ⟨rfl, ⟨rfl, trivial⟩⟩⟩⟩ (h.1 c1)
  ·
    refine wp_aload_n dX12_laysCounts_16 rfl rfl ?_
    refine wp_bipush dX12_laysCounts_17 (by decide) ?_
    refine wp_iload_n dX12_laysCounts_19 rfl rfl ?_
    refine wp_imul dX12_laysCounts_20 ?_
    refine wp_iload dX12_laysCounts_21 rfl ?_
    refine wp_iadd dX12_laysCounts_23 ?_
    refine wp_aload_n dX12_laysCounts_24 rfl rfl ?_
    refine wp_iload_n dX12_laysCounts_25 rfl rfl ?_
    refine wp_iload_n dX12_laysCounts_26 rfl rfl ?_
    refine wp_iload dX12_laysCounts_27 rfl ?_
    refine wp_callS (S := [vI (w32 ((w32 (11 * x3)) + x4)), vR a2]) (as := [vR a0, vI x1, vI x3, vI x4]) dX12_laysCounts_29 lX12_367 ((h.2 c1)) (by omega) rfl rfl (Nat.le_of_ble_eq_true rfl) ⟨Nat.le_refl _, Nat.le_refl _⟩ ?_
    rintro _ _ V2 ⟨rfl, z2, rfl, q2⟩
    show Wp _ _ _ _ _ 32 _ [vI z2, vI (w32 ((w32 (11 * x3)) + x4)), vR a2] _ _ _ _ _
    refine wp_iast dX12_laysCounts_32 h2 q2.1 ?_
    refine wp_iinc dX12_laysCounts_33 rfl rfl ?_
    refine wp_goto (tgt := 10) dX12_laysCounts_36 rfl ?_
    exact q2.2
set_option maxHeartbeats 4000000 in
set_option maxRecDepth 10000 in
theorem sX12_laysBraid {K : KK} {d : Nat} {V : Mem} {Q : Option AV → Mem → Prop} (x1 : Int) (x2 : Int) (a3 n3 : Nat) (h3 : SH[a3]? = some (14, n3, [])) (g3 : n3 < 2147483648) (h : Wf K d mX12_laysBraid 3 [some (vR 369), some (vI x1), some (vI x2), some (vR a3), some (vI 0)] [] V Q) : Mf K d mX12_laysBraid [vR 369, vI x1, vI x2, vR a3] V Q := by
  refine Mt.of2 (L := [some (vR 369), some (vI x1), some (vI x2), some (vR a3), none]) pnX12 rfl rfl ?_
  refine wp_iconst dX12_laysBraid_0 (by decide) ?_
  refine wp_istore dX12_laysBraid_1 (by decide) rfl ?_
  exact h
set_option maxHeartbeats 4000000 in
set_option maxRecDepth 10000 in
theorem sX12_laysBraid_3 {K : KK} {d : Nat} {V : Mem} {Q : Option AV → Mem → Prop} (a3 n3 : Nat) (x1 : Int) (x2 : Int) (x4 : Int) (h3 : SH[a3]? = some (14, n3, [])) (g3 : n3 < 2147483648) (h : (((0 : Int) ≤ (w32 ((w32 (x1 + 85)) + x2)) ∧ (w32 ((w32 (x1 + 85)) + x2)) < (4532 : Nat)) ∧ (((V 381 (Int.toNat (w32 ((w32 (x1 + 85)) + x2)))) ≤ x4 → Q none V) ∧ (¬ ((V 381 (Int.toNat (w32 ((w32 (x1 + 85)) + x2)))) ≤ x4) → (((0 : Int) ≤ (w32 ((w32 ((w32 (x1 + 101)) + (w32 (10 * x2)))) + x4)) ∧ (w32 ((w32 ((w32 (x1 + 101)) + (w32 (10 * x2)))) + x4)) < (4532 : Nat)) ∧ (((0 : Int) ≤ x4 ∧ x4 < (n3 : Nat)) ∧ Wf K d mX12_laysBraid 3 [some (vR 369), some (vI x1), some (vI x2), some (vR a3), some (vI (w32 (x4 + 1)))] [] (upm V a3 (Int.toNat x4) (V 381 (Int.toNat (w32 ((w32 ((w32 (x1 + 101)) + (w32 (10 * x2)))) + x4))))) Q)))))) : Wf K d mX12_laysBraid 3 [some (vR 369), some (vI x1), some (vI x2), some (vR a3), some (vI x4)] [] V Q := by
  refine wp_iload dX12_laysBraid_3 rfl ?_
  refine wp_aload_n dX12_laysBraid_5 rfl rfl ?_
  refine wp_getR (b := 381) dX12_laysBraid_6 fX12_93 rfl sh369 (by decide) rfl ?_
  refine wp_iload_n dX12_laysBraid_9 rfl rfl ?_
  refine wp_bipush dX12_laysBraid_10 (by decide) ?_
  refine wp_iadd dX12_laysBraid_12 ?_
  refine wp_iload_n dX12_laysBraid_13 rfl rfl ?_
  refine wp_iadd dX12_laysBraid_14 ?_
  refine wp_iald dX12_laysBraid_15 sh381 h.1 ?_
  refine wp_icmp_ge (tgt := 46) dX12_laysBraid_16 rfl (fun c1 => ?_) (fun c1 => ?_)
  ·
    exact wp_return dX12_laysBraid_46 rfl ⟨rfl, rfl⟩ ⟨rfl, (h.2.1 c1)⟩
  ·
    refine wp_aload_n dX12_laysBraid_19 rfl rfl ?_
    refine wp_iload dX12_laysBraid_20 rfl ?_
    refine wp_aload_n dX12_laysBraid_22 rfl rfl ?_
    refine wp_getR (b := 381) dX12_laysBraid_23 fX12_93 rfl sh369 (by decide) rfl ?_
    refine wp_iload_n dX12_laysBraid_26 rfl rfl ?_
    refine wp_bipush dX12_laysBraid_27 (by decide) ?_
    refine wp_iadd dX12_laysBraid_29 ?_
    refine wp_bipush dX12_laysBraid_30 (by decide) ?_
    refine wp_iload_n dX12_laysBraid_32 rfl rfl ?_
    refine wp_imul dX12_laysBraid_33 ?_
    refine wp_iadd dX12_laysBraid_34 ?_
    refine wp_iload dX12_laysBraid_35 rfl ?_
    refine wp_iadd dX12_laysBraid_37 ?_
    refine wp_iald dX12_laysBraid_38 sh381 (h.2.2 c1).1 ?_
    refine wp_iast dX12_laysBraid_39 h3 (h.2.2 c1).2.1 ?_
    refine wp_iinc dX12_laysBraid_40 rfl rfl ?_
    refine wp_goto (tgt := 3) dX12_laysBraid_43 rfl ?_
    exact (h.2.2 c1).2.2
set_option maxHeartbeats 4000000 in
set_option maxRecDepth 10000 in
theorem sX12_composes {K : KK} {d : Nat} {V : Mem} {Q : Option AV → Mem → Prop} (x1 : Int) (h : Mf K d mX12_laysCounts [vR 394, vI x1, vR 397] V (fun r V1 => r = none ∧ Mf K d mX12_laysCounts [vR 395, vI x1, vR 398] V1 (fun r V2 => r = none ∧ Wf K (d + 1) mX12_composes 26 [some (vR 369), some (vI x1), some (vI 0), none, none, none, none] [] V2 Q))) : Mf K (d + 1) mX12_composes [vR 369, vI x1] V Q := by
  refine Mt.of2 (L := [some (vR 369), some (vI x1), none, none, none, none, none]) pnX12 rfl rfl ?_
  refine wp_aload_n dX12_composes_0 rfl rfl ?_
  refine wp_getR (b := 394) dX12_composes_1 fX12_133 rfl sh369 (by decide) rfl ?_
  refine wp_iload_n dX12_composes_4 rfl rfl ?_
  refine wp_aload_n dX12_composes_5 rfl rfl ?_
  refine wp_getR (b := 397) dX12_composes_6 fX12_142 rfl sh369 (by decide) rfl ?_
  refine wp_callS (S := []) (as := [vR 394, vI x1, vR 397]) dX12_composes_9 lX12_371 (h) (by omega) rfl rfl (Nat.le_of_ble_eq_true rfl) ⟨Nat.le_refl _, Nat.le_refl _⟩ ?_
  rintro _ _ V1 ⟨rfl, rfl, q1⟩
  show Wp _ _ _ _ _ 12 _ [] _ _ _ _ _
  refine wp_aload_n dX12_composes_12 rfl rfl ?_
  refine wp_getR (b := 395) dX12_composes_13 fX12_136 rfl sh369 (by decide) rfl ?_
  refine wp_iload_n dX12_composes_16 rfl rfl ?_
  refine wp_aload_n dX12_composes_17 rfl rfl ?_
  refine wp_getR (b := 398) dX12_composes_18 fX12_145 rfl sh369 (by decide) rfl ?_
  refine wp_callS (S := []) (as := [vR 395, vI x1, vR 398]) dX12_composes_21 lX12_371 (q1) (by omega) rfl rfl (Nat.le_of_ble_eq_true rfl) ⟨Nat.le_refl _, Nat.le_refl _⟩ ?_
  rintro _ _ V2 ⟨rfl, rfl, q2⟩
  show Wp _ _ _ _ _ 24 _ [] _ _ _ _ _
  refine wp_iconst dX12_composes_24 (by decide) ?_
  refine wp_istore_n dX12_composes_25 rfl (by decide) rfl ?_
  exact q2
set_option maxHeartbeats 4000000 in
set_option maxRecDepth 10000 in
theorem sX12_composes_26 {K : KK} {d : Nat} {V : Mem} {Q : Option AV → Mem → Prop} (x1 : Int) (x2 : Int) (h : ((x1 < x2 → Wf K (d + 1) mX12_composes 141 [some (vR 369), some (vI x1), some (vI 0), none, none, none, none] [] V Q) ∧ (¬ (x1 < x2) → Wf K (d + 1) mX12_composes 33 [some (vR 369), some (vI x1), some (vI x2), some (vI 0), none, none, none] [] V Q))) : Wf K (d + 1) mX12_composes 26 [some (vR 369), some (vI x1), some (vI x2), none, none, none, none] [] V Q := by
  refine wp_iload_n dX12_composes_26 rfl rfl ?_
  refine wp_iload_n dX12_composes_27 rfl rfl ?_
  refine wp_icmp_gt (tgt := 139) dX12_composes_28 rfl (fun c1 => ?_) (fun c1 => ?_)
  ·
    refine wp_iconst dX12_composes_139 (by decide) ?_
    refine wp_istore_n dX12_composes_140 rfl (by decide) rfl ?_
    exact (h.1 c1)
  ·
    refine wp_iconst dX12_composes_31 (by decide) ?_
    refine wp_istore_n dX12_composes_32 rfl (by decide) rfl ?_
    exact (h.2 c1)
set_option maxHeartbeats 4000000 in
set_option maxRecDepth 10000 in
theorem sX12_composes_141 {K : KK} {d : Nat} {V : Mem} {Q : Option AV → Mem → Prop} (x1 : Int) (x2 : Int) (h : ((x1 ≤ x2 → Q none V) ∧ (¬ (x1 ≤ x2) → Wf K (d + 1) mX12_composes 148 [some (vR 369), some (vI x1), some (vI x2), some (vI 0), none, none, none] [] V Q))) : Wf K (d + 1) mX12_composes 141 [some (vR 369), some (vI x1), some (vI x2), none, none, none, none] [] V Q := by
  refine wp_iload_n dX12_composes_141 rfl rfl ?_
  refine wp_iload_n dX12_composes_142 rfl rfl ?_
  refine wp_icmp_ge (tgt := 246) dX12_composes_143 rfl (fun c1 => ?_) (fun c1 => ?_)
  ·
    exact wp_return dX12_composes_246 rfl ⟨rfl, rfl⟩ ⟨rfl, (h.1 c1)⟩
  ·
    refine wp_iconst dX12_composes_146 (by decide) ?_
    refine wp_istore_n dX12_composes_147 rfl (by decide) rfl ?_
    exact (h.2 c1)
set_option maxHeartbeats 4000000 in
set_option maxRecDepth 10000 in
theorem sX12_composes_33 {K : KK} {d : Nat} {V : Mem} {Q : Option AV → Mem → Prop} (x1 : Int) (x2 : Int) (x3 : Int) (h : ((x1 < x3 → Wf K (d + 1) mX12_composes 26 [some (vR 369), some (vI x1), some (vI (w32 (x2 + 1))), none, none, none, none] [] V Q) ∧ (¬ (x1 < x3) → (((0 : Int) ≤ (w32 (11 * x2)) ∧ (w32 (11 * x2)) < (121 : Nat)) ∧ (((0 : Int) ≤ x3 ∧ x3 < (121 : Nat)) ∧ Wf K (d + 1) mX12_composes 59 [some (vR 369), some (vI x1), some (vI x2), some (vI x3), some (vI (w32 ((V 397 (Int.toNat (w32 (11 * x2)))) + (V 398 (Int.toNat x3))))), some (vI 1), none] [] V Q))))) : Wf K (d + 1) mX12_composes 33 [some (vR 369), some (vI x1), some (vI x2), some (vI x3), none, none, none] [] V Q := by
  refine wp_iload_n dX12_composes_33 rfl rfl ?_
  refine wp_iload_n dX12_composes_34 rfl rfl ?_
  refine wp_icmp_gt (tgt := 133) dX12_composes_35 rfl (fun c1 => ?_) (fun c1 => ?_)
  ·
    refine wp_iinc dX12_composes_133 rfl rfl ?_
    refine wp_goto (tgt := 26) dX12_composes_136 rfl ?_
    exact wp_loc (L2 := [some (vR 369), some (vI x1), some (vI (w32 (x2 + 1))), none, none, none, none]) ⟨rfl, ⟨rfl, ⟨rfl, trivial⟩⟩⟩ (h.1 c1)
  ·
    refine wp_aload_n dX12_composes_38 rfl rfl ?_
    refine wp_getR (b := 397) dX12_composes_39 fX12_142 rfl sh369 (by decide) rfl ?_
    refine wp_bipush dX12_composes_42 (by decide) ?_
    refine wp_iload_n dX12_composes_44 rfl rfl ?_
    refine wp_imul dX12_composes_45 ?_
    refine wp_iald dX12_composes_46 sh397 (h.2 c1).1 ?_
    refine wp_aload_n dX12_composes_47 rfl rfl ?_
    refine wp_getR (b := 398) dX12_composes_48 fX12_145 rfl sh369 (by decide) rfl ?_
    refine wp_iload_n dX12_composes_51 rfl rfl ?_
    refine wp_iald dX12_composes_52 sh398 (h.2 c1).2.1 ?_
    refine wp_iadd dX12_composes_53 ?_
    refine wp_istore dX12_composes_54 (by decide) rfl ?_
    refine wp_iconst dX12_composes_56 (by decide) ?_
    refine wp_istore dX12_composes_57 (by decide) rfl ?_
    exact (h.2 c1).2.2
set_option maxHeartbeats 4000000 in
set_option maxRecDepth 10000 in
theorem sX12_composes_148 {K : KK} {d : Nat} {V : Mem} {Q : Option AV → Mem → Prop} (x1 : Int) (x2 : Int) (x3 : Int) (h : ((x1 ≤ x3 → Wf K (d + 1) mX12_composes 141 [some (vR 369), some (vI x1), some (vI (w32 (x2 + 1))), none, none, none, none] [] V Q) ∧ (¬ (x1 ≤ x3) → (((0 : Int) ≤ (w32 ((w32 ((w32 (11 * x2)) + x3)) + 1)) ∧ (w32 ((w32 ((w32 (11 * x2)) + x3)) + 1)) < (121 : Nat)) ∧ (((0 : Int) ≤ (w32 ((w32 ((w32 ((w32 (11 * x2)) + 11)) + x3)) + 1)) ∧ (w32 ((w32 ((w32 ((w32 (11 * x2)) + 11)) + x3)) + 1)) < (121 : Nat)) ∧ (((0 : Int) ≤ (w32 ((w32 (11 * x2)) + x3)) ∧ (w32 ((w32 (11 * x2)) + x3)) < (121 : Nat)) ∧ (((0 : Int) ≤ (w32 ((w32 ((w32 (11 * x2)) + 11)) + x3)) ∧ (w32 ((w32 ((w32 (11 * x2)) + 11)) + x3)) < (121 : Nat)) ∧ ((¬ (w32 ((w32 ((w32 ((V 399 (Int.toNat (w32 ((w32 ((w32 (11 * x2)) + x3)) + 1)))) - (V 399 (Int.toNat (w32 ((w32 ((w32 ((w32 (11 * x2)) + 11)) + x3)) + 1)))))) - (V 399 (Int.toNat (w32 ((w32 (11 * x2)) + x3)))))) + (V 399 (Int.toNat (w32 ((w32 ((w32 (11 * x2)) + 11)) + x3)))))) = 1 → (((0 : Int) ≤ x2 ∧ x2 < (10 : Nat)) ∧ (((0 : Int) ≤ x2 ∧ x2 < (10 : Nat)) ∧ Wf K (d + 1) mX12_composes 148 [some (vR 369), some (vI x1), some (vI x2), some (vI (w32 (x3 + 1))), none, none, none] [] (upm V 396 (Int.toNat x2) (V 396 (Int.toNat x2))) Q))) ∧ ((w32 ((w32 ((w32 ((V 399 (Int.toNat (w32 ((w32 ((w32 (11 * x2)) + x3)) + 1)))) - (V 399 (Int.toNat (w32 ((w32 ((w32 ((w32 (11 * x2)) + 11)) + x3)) + 1)))))) - (V 399 (Int.toNat (w32 ((w32 (11 * x2)) + x3)))))) + (V 399 (Int.toNat (w32 ((w32 ((w32 (11 * x2)) + 11)) + x3)))))) = 1 → (((0 : Int) ≤ x2 ∧ x2 < (10 : Nat)) ∧ Wf K (d + 1) mX12_composes 148 [some (vR 369), some (vI x1), some (vI x2), some (vI (w32 (x3 + 1))), none, none, none] [] (upm V 396 (Int.toNat x2) x3) Q)))))))))) : Wf K (d + 1) mX12_composes 148 [some (vR 369), some (vI x1), some (vI x2), some (vI x3), none, none, none] [] V Q := by
  refine wp_iload_n dX12_composes_148 rfl rfl ?_
  refine wp_iload_n dX12_composes_149 rfl rfl ?_
  refine wp_icmp_ge (tgt := 240) dX12_composes_150 rfl (fun c1 => ?_) (fun c1 => ?_)
  ·
    refine wp_iinc dX12_composes_240 rfl rfl ?_
    refine wp_goto (tgt := 141) dX12_composes_243 rfl ?_
    exact wp_loc (L2 := [some (vR 369), some (vI x1), some (vI (w32 (x2 + 1))), none, none, none, none]) ⟨rfl, ⟨rfl, ⟨rfl, trivial⟩⟩⟩ (h.1 c1)
  ·
    refine wp_aload_n dX12_composes_153 rfl rfl ?_
    refine wp_getR (b := 399) dX12_composes_154 fX12_148 rfl sh369 (by decide) rfl ?_
    refine wp_bipush dX12_composes_157 (by decide) ?_
    refine wp_iload_n dX12_composes_159 rfl rfl ?_
    refine wp_imul dX12_composes_160 ?_
    refine wp_iload_n dX12_composes_161 rfl rfl ?_
    refine wp_iadd dX12_composes_162 ?_
    refine wp_iconst dX12_composes_163 (by decide) ?_
    refine wp_iadd dX12_composes_164 ?_
    refine wp_iald dX12_composes_165 sh399 (h.2 c1).1 ?_
    refine wp_aload_n dX12_composes_166 rfl rfl ?_
    refine wp_getR (b := 399) dX12_composes_167 fX12_148 rfl sh369 (by decide) rfl ?_
    refine wp_bipush dX12_composes_170 (by decide) ?_
    refine wp_iload_n dX12_composes_172 rfl rfl ?_
    refine wp_imul dX12_composes_173 ?_
    refine wp_bipush dX12_composes_174 (by decide) ?_
    refine wp_iadd dX12_composes_176 ?_
    refine wp_iload_n dX12_composes_177 rfl rfl ?_
    refine wp_iadd dX12_composes_178 ?_
    refine wp_iconst dX12_composes_179 (by decide) ?_
    refine wp_iadd dX12_composes_180 ?_
    refine wp_iald dX12_composes_181 sh399 (h.2 c1).2.1 ?_
    refine wp_isub dX12_composes_182 ?_
    refine wp_aload_n dX12_composes_183 rfl rfl ?_
    refine wp_getR (b := 399) dX12_composes_184 fX12_148 rfl sh369 (by decide) rfl ?_
    refine wp_bipush dX12_composes_187 (by decide) ?_
    refine wp_iload_n dX12_composes_189 rfl rfl ?_
    refine wp_imul dX12_composes_190 ?_
    refine wp_iload_n dX12_composes_191 rfl rfl ?_
    refine wp_iadd dX12_composes_192 ?_
    refine wp_iald dX12_composes_193 sh399 (h.2 c1).2.2.1 ?_
    refine wp_isub dX12_composes_194 ?_
    refine wp_aload_n dX12_composes_195 rfl rfl ?_
    refine wp_getR (b := 399) dX12_composes_196 fX12_148 rfl sh369 (by decide) rfl ?_
    refine wp_bipush dX12_composes_199 (by decide) ?_
    refine wp_iload_n dX12_composes_201 rfl rfl ?_
    refine wp_imul dX12_composes_202 ?_
    refine wp_bipush dX12_composes_203 (by decide) ?_
    refine wp_iadd dX12_composes_205 ?_
    refine wp_iload_n dX12_composes_206 rfl rfl ?_
    refine wp_iadd dX12_composes_207 ?_
    refine wp_iald dX12_composes_208 sh399 (h.2 c1).2.2.2.1 ?_
    refine wp_iadd dX12_composes_209 ?_
    refine wp_istore dX12_composes_210 (by decide) rfl ?_
    refine wp_aload_n dX12_composes_212 rfl rfl ?_
    refine wp_getR (b := 396) dX12_composes_213 fX12_139 rfl sh369 (by decide) rfl ?_
    refine wp_iload_n dX12_composes_216 rfl rfl ?_
    refine wp_iload dX12_composes_217 rfl ?_
    refine wp_iconst dX12_composes_219 (by decide) ?_
    refine wp_icmp_ne (tgt := 227) dX12_composes_220 rfl (fun c2 => ?_) (fun c2 => ?_)
    ·
      refine wp_aload_n dX12_composes_227 rfl rfl ?_
      refine wp_getR (b := 396) dX12_composes_228 fX12_139 rfl sh369 (by decide) rfl ?_
      refine wp_iload_n dX12_composes_231 rfl rfl ?_
      refine wp_iald dX12_composes_232 sh396 ((h.2 c1).2.2.2.2.1 c2).1 ?_
      refine wp_iast dX12_composes_233 sh396 ((h.2 c1).2.2.2.2.1 c2).2.1 ?_
      refine wp_iinc dX12_composes_234 rfl rfl ?_
      refine wp_goto (tgt := 148) dX12_composes_237 rfl ?_
      exact wp_loc (L2 := [some (vR 369), some (vI x1), some (vI x2), some (vI (w32 (x3 + 1))), none, none, none]) ⟨rfl, ⟨rfl, ⟨rfl, ⟨rfl, trivial⟩⟩⟩⟩ ((h.2 c1).2.2.2.2.1 c2).2.2
    ·
      refine wp_iload_n dX12_composes_223 rfl rfl ?_
      refine wp_goto (tgt := 233) dX12_composes_224 rfl ?_
      refine wp_iast dX12_composes_233 sh396 ((h.2 c1).2.2.2.2.2 c2).1 ?_
      refine wp_iinc dX12_composes_234 rfl rfl ?_
      refine wp_goto (tgt := 148) dX12_composes_237 rfl ?_
      exact wp_loc (L2 := [some (vR 369), some (vI x1), some (vI x2), some (vI (w32 (x3 + 1))), none, none, none]) ⟨rfl, ⟨rfl, ⟨rfl, ⟨rfl, trivial⟩⟩⟩⟩ ((h.2 c1).2.2.2.2.2 c2).2
set_option maxHeartbeats 4000000 in
set_option maxRecDepth 10000 in
theorem sX12_composes_59 {K : KK} {d : Nat} {V : Mem} {Q : Option AV → Mem → Prop} (x1 : Int) (x2 : Int) (x3 : Int) (x4 : Int) (x5 : Int) (h : ((x1 < x5 → (((0 : Int) ≤ (w32 ((w32 (11 * x2)) + x3)) ∧ (w32 ((w32 (11 * x2)) + x3)) < (121 : Nat)) ∧ Wf K (d + 1) mX12_composes 33 [some (vR 369), some (vI x1), some (vI x2), some (vI (w32 (x3 + 1))), none, none, none] [] (upm V 399 (Int.toNat (w32 ((w32 (11 * x2)) + x3))) x4) Q)) ∧ (¬ (x1 < x5) → (((0 : Int) ≤ (w32 ((w32 (11 * x2)) + x5)) ∧ (w32 ((w32 (11 * x2)) + x5)) < (121 : Nat)) ∧ (((0 : Int) ≤ (w32 ((w32 (11 * x5)) + x3)) ∧ (w32 ((w32 (11 * x5)) + x3)) < (121 : Nat)) ∧ ((x4 ≤ (w32 ((V 397 (Int.toNat (w32 ((w32 (11 * x2)) + x5)))) + (V 398 (Int.toNat (w32 ((w32 (11 * x5)) + x3)))))) → Wf K (d + 1) mX12_composes 59 [some (vR 369), some (vI x1), some (vI x2), some (vI x3), some (vI x4), some (vI (w32 (x5 + 1))), none] [] V Q) ∧ (¬ (x4 ≤ (w32 ((V 397 (Int.toNat (w32 ((w32 (11 * x2)) + x5)))) + (V 398 (Int.toNat (w32 ((w32 (11 * x5)) + x3))))))) → Wf K (d + 1) mX12_composes 59 [some (vR 369), some (vI x1), some (vI x2), some (vI x3), some (vI (w32 ((V 397 (Int.toNat (w32 ((w32 (11 * x2)) + x5)))) + (V 398 (Int.toNat (w32 ((w32 (11 * x5)) + x3))))))), some (vI (w32 (x5 + 1))), none] [] V Q))))))) : Wf K (d + 1) mX12_composes 59 [some (vR 369), some (vI x1), some (vI x2), some (vI x3), some (vI x4), some (vI x5), none] [] V Q := by
  refine wp_iload dX12_composes_59 rfl ?_
  refine wp_iload_n dX12_composes_61 rfl rfl ?_
  refine wp_icmp_gt (tgt := 114) dX12_composes_62 rfl (fun c1 => ?_) (fun c1 => ?_)
  ·
    refine wp_aload_n dX12_composes_114 rfl rfl ?_
    refine wp_getR (b := 399) dX12_composes_115 fX12_148 rfl sh369 (by decide) rfl ?_
    refine wp_bipush dX12_composes_118 (by decide) ?_
    refine wp_iload_n dX12_composes_120 rfl rfl ?_
    refine wp_imul dX12_composes_121 ?_
    refine wp_iload_n dX12_composes_122 rfl rfl ?_
    refine wp_iadd dX12_composes_123 ?_
    refine wp_iload dX12_composes_124 rfl ?_
    refine wp_iast dX12_composes_126 sh399 (h.1 c1).1 ?_
    refine wp_iinc dX12_composes_127 rfl rfl ?_
    refine wp_goto (tgt := 33) dX12_composes_130 rfl ?_
    exact wp_loc (L2 := [some (vR 369), some (vI x1), some (vI x2), some (vI (w32 (x3 + 1))), none, none, none]) ⟨rfl, ⟨rfl, ⟨rfl, ⟨rfl, trivial⟩⟩⟩⟩ (h.1 c1).2
  ·
    refine wp_aload_n dX12_composes_65 rfl rfl ?_
    refine wp_getR (b := 397) dX12_composes_66 fX12_142 rfl sh369 (by decide) rfl ?_
    refine wp_bipush dX12_composes_69 (by decide) ?_
    refine wp_iload_n dX12_composes_71 rfl rfl ?_
    refine wp_imul dX12_composes_72 ?_
    refine wp_iload dX12_composes_73 rfl ?_
    refine wp_iadd dX12_composes_75 ?_
    refine wp_iald dX12_composes_76 sh397 (h.2 c1).1 ?_
    refine wp_aload_n dX12_composes_77 rfl rfl ?_
    refine wp_getR (b := 398) dX12_composes_78 fX12_145 rfl sh369 (by decide) rfl ?_
    refine wp_bipush dX12_composes_81 (by decide) ?_
    refine wp_iload dX12_composes_83 rfl ?_
    refine wp_imul dX12_composes_85 ?_
    refine wp_iload_n dX12_composes_86 rfl rfl ?_
    refine wp_iadd dX12_composes_87 ?_
    refine wp_iald dX12_composes_88 sh398 (h.2 c1).2.1 ?_
    refine wp_iadd dX12_composes_89 ?_
    refine wp_istore dX12_composes_90 (by decide) rfl ?_
    refine wp_iload dX12_composes_92 rfl ?_
    refine wp_iload dX12_composes_94 rfl ?_
    refine wp_icmp_ge (tgt := 104) dX12_composes_96 rfl (fun c2 => ?_) (fun c2 => ?_)
    ·
      refine wp_iload dX12_composes_104 rfl ?_
      refine wp_istore dX12_composes_106 (by decide) rfl ?_
      refine wp_iinc dX12_composes_108 rfl rfl ?_
      refine wp_goto (tgt := 59) dX12_composes_111 rfl ?_
      exact wp_loc (L2 := [some (vR 369), some (vI x1), some (vI x2), some (vI x3), some (vI x4), some (vI (w32 (x5 + 1))), none]) ⟨rfl, ⟨rfl, ⟨rfl, ⟨rfl, ⟨rfl, ⟨rfl, trivial⟩⟩⟩⟩⟩⟩ ((h.2 c1).2.2.1 c2)
    ·
      refine wp_iload dX12_composes_99 rfl ?_
      refine wp_goto (tgt := 106) dX12_composes_101 rfl ?_
      refine wp_istore dX12_composes_106 (by decide) rfl ?_
      refine wp_iinc dX12_composes_108 rfl rfl ?_
      refine wp_goto (tgt := 59) dX12_composes_111 rfl ?_
      exact wp_loc (L2 := [some (vR 369), some (vI x1), some (vI x2), some (vI x3), some (vI (w32 ((V 397 (Int.toNat (w32 ((w32 (11 * x2)) + x5)))) + (V 398 (Int.toNat (w32 ((w32 (11 * x5)) + x3))))))), some (vI (w32 (x5 + 1))), none]) ⟨rfl, ⟨rfl, ⟨rfl, ⟨rfl, ⟨rfl, ⟨rfl, trivial⟩⟩⟩⟩⟩⟩ ((h.2 c1).2.2.2 c2)
set_option maxHeartbeats 4000000 in
set_option maxRecDepth 10000 in
theorem sX12_crossingsOf {K : KK} {d : Nat} {V : Mem} {Q : Option AV → Mem → Prop} (x1 : Int) (h : Wf K (d + 1) mX12_crossingsOf 4 [some (vR 369), some (vI x1), some (vI 0), some (vI 0), none] [] V Q) : Mf K (d + 1) mX12_crossingsOf [vR 369, vI x1] V Q := by
  refine Mt.of2 (L := [some (vR 369), some (vI x1), none, none, none]) pnX12 rfl rfl ?_
  refine wp_iconst dX12_crossingsOf_0 (by decide) ?_
  refine wp_istore_n dX12_crossingsOf_1 rfl (by decide) rfl ?_
  refine wp_iconst dX12_crossingsOf_2 (by decide) ?_
  refine wp_istore_n dX12_crossingsOf_3 rfl (by decide) rfl ?_
  exact h
set_option maxHeartbeats 4000000 in
set_option maxRecDepth 10000 in
theorem sX12_crossingsOf_4 {K : KK} {d : Nat} {V : Mem} {Q : Option AV → Mem → Prop} (x1 : Int) (x2 : Int) (x3 : Int) (h : (((0 : Int) ≤ (w32 (85 + x1)) ∧ (w32 (85 + x1)) < (4532 : Nat)) ∧ (((V 381 (Int.toNat (w32 (85 + x1)))) ≤ x3 → Q (some (vI x2)) V) ∧ (¬ ((V 381 (Int.toNat (w32 (85 + x1)))) ≤ x3) → Wf K (d + 1) mX12_crossingsOf 16 [some (vR 369), some (vI x1), some (vI x2), some (vI x3), some (vI 0)] [] V Q)))) : Wf K (d + 1) mX12_crossingsOf 4 [some (vR 369), some (vI x1), some (vI x2), some (vI x3), none] [] V Q := by
  refine wp_iload_n dX12_crossingsOf_4 rfl rfl ?_
  refine wp_aload_n dX12_crossingsOf_5 rfl rfl ?_
  refine wp_iload_n dX12_crossingsOf_6 rfl rfl ?_
  refine wp_inlV (d' := d) (S := [vI x3]) (as := [vI x1]) dX12_crossingsOf_7 lX12_375 (by omega) sh369 rfl rfl (Nat.le_of_ble_eq_true rfl) ⟨Nat.le_refl _, Nat.le_refl _⟩ (Mt.of2 (L := [some (vR 369), some (vI x1)]) pnX12 rfl rfl ?_)
  refine wp_aload_n dX12_strandsOf_0 rfl rfl ?_
  refine wp_getR (b := 381) dX12_strandsOf_1 fX12_93 rfl sh369 (by decide) rfl ?_
  refine wp_bipush dX12_strandsOf_4 (by decide) ?_
  refine wp_iload_n dX12_strandsOf_6 rfl rfl ?_
  refine wp_iadd dX12_strandsOf_7 ?_
  refine wp_iald dX12_strandsOf_8 sh381 h.1 ?_
  refine wp_ireturn dX12_strandsOf_9 rfl ⟨rfl, rfl⟩ ?_
  show Wp _ _ _ _ _ 10 _ [vI (V 381 (Int.toNat (w32 (85 + x1)))), vI x3] _ _ _ _ _
  refine wp_icmp_ge (tgt := 58) dX12_crossingsOf_10 rfl (fun c1 => ?_) (fun c1 => ?_)
  ·
    refine wp_iload_n dX12_crossingsOf_58 rfl rfl ?_
    exact wp_ireturn dX12_crossingsOf_59 rfl ⟨rfl, rfl⟩ ⟨rfl, (h.2.1 c1)⟩
  ·
    refine wp_iconst dX12_crossingsOf_13 (by decide) ?_
    refine wp_istore dX12_crossingsOf_14 (by decide) rfl ?_
    exact (h.2.2 c1)
set_option maxHeartbeats 4000000 in
set_option maxRecDepth 10000 in
theorem sX12_crossingsOf_16 {K : KK} {d : Nat} {V : Mem} {Q : Option AV → Mem → Prop} (x1 : Int) (x2 : Int) (x3 : Int) (x4 : Int) (h : ((x3 ≤ x4 → Wf K (d + 1) mX12_crossingsOf 4 [some (vR 369), some (vI x1), some (vI x2), some (vI (w32 (x3 + 1))), none] [] V Q) ∧ (¬ (x3 ≤ x4) → (((0 : Int) ≤ (w32 ((w32 (101 + (w32 (10 * x1)))) + x3)) ∧ (w32 ((w32 (101 + (w32 (10 * x1)))) + x3)) < (4532 : Nat)) ∧ (((0 : Int) ≤ (w32 ((w32 (101 + (w32 (10 * x1)))) + x4)) ∧ (w32 ((w32 (101 + (w32 (10 * x1)))) + x4)) < (4532 : Nat)) ∧ (((V 381 (Int.toNat (w32 ((w32 (101 + (w32 (10 * x1)))) + x4)))) ≤ (V 381 (Int.toNat (w32 ((w32 (101 + (w32 (10 * x1)))) + x3)))) → Wf K (d + 1) mX12_crossingsOf 16 [some (vR 369), some (vI x1), some (vI (w32 (x2 + 0))), some (vI x3), some (vI (w32 (x4 + 1)))] [] V Q) ∧ (¬ ((V 381 (Int.toNat (w32 ((w32 (101 + (w32 (10 * x1)))) + x4)))) ≤ (V 381 (Int.toNat (w32 ((w32 (101 + (w32 (10 * x1)))) + x3))))) → Wf K (d + 1) mX12_crossingsOf 16 [some (vR 369), some (vI x1), some (vI (w32 (x2 + 1))), some (vI x3), some (vI (w32 (x4 + 1)))] [] V Q))))))) : Wf K (d + 1) mX12_crossingsOf 16 [some (vR 369), some (vI x1), some (vI x2), some (vI x3), some (vI x4)] [] V Q := by
  refine wp_iload dX12_crossingsOf_16 rfl ?_
  refine wp_iload_n dX12_crossingsOf_18 rfl rfl ?_
  refine wp_icmp_ge (tgt := 52) dX12_crossingsOf_19 rfl (fun c1 => ?_) (fun c1 => ?_)
  ·
    refine wp_iinc dX12_crossingsOf_52 rfl rfl ?_
    refine wp_goto (tgt := 4) dX12_crossingsOf_55 rfl ?_
    exact wp_loc (L2 := [some (vR 369), some (vI x1), some (vI x2), some (vI (w32 (x3 + 1))), none]) ⟨rfl, ⟨rfl, ⟨rfl, ⟨rfl, trivial⟩⟩⟩⟩ (h.1 c1)
  ·
    refine wp_iload_n dX12_crossingsOf_22 rfl rfl ?_
    refine wp_aload_n dX12_crossingsOf_23 rfl rfl ?_
    refine wp_iload_n dX12_crossingsOf_24 rfl rfl ?_
    refine wp_iload_n dX12_crossingsOf_25 rfl rfl ?_
    refine wp_inlV (d' := d) (S := [vI x2]) (as := [vI x1, vI x3]) dX12_crossingsOf_26 lX12_378 (by omega) sh369 rfl rfl (Nat.le_of_ble_eq_true rfl) ⟨Nat.le_refl _, Nat.le_refl _⟩ (Mt.of2 (L := [some (vR 369), some (vI x1), some (vI x3)]) pnX12 rfl rfl ?_)
    refine wp_aload_n dX12_endOf_0 rfl rfl ?_
    refine wp_getR (b := 381) dX12_endOf_1 fX12_93 rfl sh369 (by decide) rfl ?_
    refine wp_bipush dX12_endOf_4 (by decide) ?_
    refine wp_bipush dX12_endOf_6 (by decide) ?_
    refine wp_iload_n dX12_endOf_8 rfl rfl ?_
    refine wp_imul dX12_endOf_9 ?_
    refine wp_iadd dX12_endOf_10 ?_
    refine wp_iload_n dX12_endOf_11 rfl rfl ?_
    refine wp_iadd dX12_endOf_12 ?_
    refine wp_iald dX12_endOf_13 sh381 (h.2 c1).1 ?_
    refine wp_ireturn dX12_endOf_14 rfl ⟨rfl, rfl⟩ ?_
    show Wp _ _ _ _ _ 29 _ [vI (V 381 (Int.toNat (w32 ((w32 (101 + (w32 (10 * x1)))) + x3)))), vI x2] _ _ _ _ _
    refine wp_aload_n dX12_crossingsOf_29 rfl rfl ?_
    refine wp_iload_n dX12_crossingsOf_30 rfl rfl ?_
    refine wp_iload dX12_crossingsOf_31 rfl ?_
    refine wp_inlV (d' := d) (S := [vI (V 381 (Int.toNat (w32 ((w32 (101 + (w32 (10 * x1)))) + x3)))), vI x2]) (as := [vI x1, vI x4]) dX12_crossingsOf_33 lX12_378 (by omega) sh369 rfl rfl (Nat.le_of_ble_eq_true rfl) ⟨Nat.le_refl _, Nat.le_refl _⟩ (Mt.of2 (L := [some (vR 369), some (vI x1), some (vI x4)]) pnX12 rfl rfl ?_)
    refine wp_aload_n dX12_endOf_0 rfl rfl ?_
    refine wp_getR (b := 381) dX12_endOf_1 fX12_93 rfl sh369 (by decide) rfl ?_
    refine wp_bipush dX12_endOf_4 (by decide) ?_
    refine wp_bipush dX12_endOf_6 (by decide) ?_
    refine wp_iload_n dX12_endOf_8 rfl rfl ?_
    refine wp_imul dX12_endOf_9 ?_
    refine wp_iadd dX12_endOf_10 ?_
    refine wp_iload_n dX12_endOf_11 rfl rfl ?_
    refine wp_iadd dX12_endOf_12 ?_
    refine wp_iald dX12_endOf_13 sh381 (h.2 c1).2.1 ?_
    refine wp_ireturn dX12_endOf_14 rfl ⟨rfl, rfl⟩ ?_
    show Wp _ _ _ _ _ 36 _ [vI (V 381 (Int.toNat (w32 ((w32 (101 + (w32 (10 * x1)))) + x4)))), vI (V 381 (Int.toNat (w32 ((w32 (101 + (w32 (10 * x1)))) + x3)))), vI x2] _ _ _ _ _
    refine wp_icmp_ge (tgt := 43) dX12_crossingsOf_36 rfl (fun c2 => ?_) (fun c2 => ?_)
    ·
      refine wp_iconst dX12_crossingsOf_43 (by decide) ?_
      refine wp_iadd dX12_crossingsOf_44 ?_
      refine wp_istore_n dX12_crossingsOf_45 rfl (by decide) rfl ?_
      refine wp_iinc dX12_crossingsOf_46 rfl rfl ?_
      refine wp_goto (tgt := 16) dX12_crossingsOf_49 rfl ?_
      exact ((h.2 c1).2.2.1 c2)
    ·
      refine wp_iconst dX12_crossingsOf_39 (by decide) ?_
      refine wp_goto (tgt := 44) dX12_crossingsOf_40 rfl ?_
      refine wp_iadd dX12_crossingsOf_44 ?_
      refine wp_istore_n dX12_crossingsOf_45 rfl (by decide) rfl ?_
      refine wp_iinc dX12_crossingsOf_46 rfl rfl ?_
      refine wp_goto (tgt := 16) dX12_crossingsOf_49 rfl ?_
      exact ((h.2 c1).2.2.2 c2)
set_option maxHeartbeats 4000000 in
set_option maxRecDepth 10000 in
theorem sX12_braid {K : KK} {d : Nat} {V : Mem} {Q : Option AV → Mem → Prop} (x1 : Int) (x2 : Int) (h : Mf K d mX12_isBraid [vR 369, vI x1] (upm V 369 0 0) (fun r V1 => ∃ z1, r = some (vI z1) ∧ ((z1 = 0 → Q (some (vI (-1))) V1) ∧ (¬ (z1 = 0) → Mf K d mX12_within [vI x2, vI 0, vI 2] V1 (fun r V3 => ∃ z3, r = some (vI z3) ∧ ((¬ z3 = 0 → ((¬ x2 = 0 → ((¬ x2 = 1 → (((0 : Int) ≤ (w32 (93 + x1)) ∧ (w32 (93 + x1)) < (4532 : Nat)) ∧ Q (some (vI (V3 381 (Int.toNat (w32 (93 + x1)))))) V3)) ∧ (x2 = 1 → Mf K d mX12_crossingsOf [vR 369, vI x1] V3 (fun r V7 => ∃ z7, r = some (vI z7) ∧ Q (some (vI z7)) V7)))) ∧ (x2 = 0 → (((0 : Int) ≤ (w32 (85 + x1)) ∧ (w32 (85 + x1)) < (4532 : Nat)) ∧ Q (some (vI (V3 381 (Int.toNat (w32 (85 + x1)))))) V3)))) ∧ (z3 = 0 → Q (some (vI (-1))) V3))))))) : Mf K (d + 1) mX12_braid [vR 369, vI x1, vI x2] V Q := by
  refine Mt.of2 (L := [some (vR 369), some (vI x1), some (vI x2)]) pnX12 rfl rfl ?_
  refine wp_aload_n dX12_braid_0 rfl rfl ?_
  refine wp_iconst dX12_braid_1 (by decide) ?_
  refine wp_putI dX12_braid_2 fwX12_1 rfl sh369 (by decide) ?_
  refine wp_aload_n dX12_braid_5 rfl rfl ?_
  refine wp_iload_n dX12_braid_6 rfl rfl ?_
  refine wp_callV (S := []) (as := [vI x1]) dX12_braid_7 lX12_381 (h) (by omega) sh369 rfl rfl (Nat.le_of_ble_eq_true rfl) ⟨Nat.le_refl _, Nat.le_refl _⟩ ?_
  rintro _ _ V1 ⟨rfl, z1, rfl, q1⟩
  show Wp _ _ _ _ _ 10 _ [vI z1] _ _ _ _ _
  refine wp_if_eq (tgt := 22) dX12_braid_10 rfl (fun c2 => ?_) (fun c2 => ?_)
  ·
    refine wp_iconst dX12_braid_22 (by decide) ?_
    exact wp_ireturn dX12_braid_23 rfl ⟨rfl, rfl⟩ ⟨rfl, (q1.1 c2)⟩
  ·
    refine wp_iload_n dX12_braid_13 rfl rfl ?_
    refine wp_iconst dX12_braid_14 (by decide) ?_
    refine wp_iconst dX12_braid_15 (by decide) ?_
    refine wp_callS (S := []) (as := [vI x2, vI 0, vI 2]) dX12_braid_16 lX12_358 ((q1.2 c2)) (by omega) rfl rfl (Nat.le_of_ble_eq_true rfl) ⟨Nat.le_refl _, Nat.le_refl _⟩ ?_
    rintro _ _ V3 ⟨rfl, z3, rfl, q3⟩
    show Wp _ _ _ _ _ 19 _ [vI z3] _ _ _ _ _
    refine wp_if_ne (tgt := 24) dX12_braid_19 rfl (fun c4 => ?_) (fun c4 => ?_)
    ·
      refine wp_iload_n dX12_braid_24 rfl rfl ?_
      refine wp_if_ne (tgt := 36) dX12_braid_25 rfl (fun c5 => ?_) (fun c5 => ?_)
      ·
        refine wp_iload_n dX12_braid_36 rfl rfl ?_
        refine wp_iconst dX12_braid_37 (by decide) ?_
        refine wp_icmp_ne (tgt := 49) dX12_braid_38 rfl (fun c6 => ?_) (fun c6 => ?_)
        ·
          refine wp_aload_n dX12_braid_49 rfl rfl ?_
          refine wp_getR (b := 381) dX12_braid_50 fX12_93 rfl sh369 (by decide) rfl ?_
          refine wp_bipush dX12_braid_53 (by decide) ?_
          refine wp_iload_n dX12_braid_55 rfl rfl ?_
          refine wp_iadd dX12_braid_56 ?_
          refine wp_iald dX12_braid_57 sh381 (((q3.1 c4).1 c5).1 c6).1 ?_
          exact wp_ireturn dX12_braid_58 rfl ⟨rfl, rfl⟩ ⟨rfl, (((q3.1 c4).1 c5).1 c6).2⟩
        ·
          refine wp_aload_n dX12_braid_41 rfl rfl ?_
          refine wp_iload_n dX12_braid_42 rfl rfl ?_
          refine wp_callV (S := []) (as := [vI x1]) dX12_braid_43 lX12_384 ((((q3.1 c4).1 c5).2 c6)) (by omega) sh369 rfl rfl (Nat.le_of_ble_eq_true rfl) ⟨Nat.le_refl _, Nat.le_refl _⟩ ?_
          rintro _ _ V7 ⟨rfl, z7, rfl, q7⟩
          show Wp _ _ _ _ _ 46 _ [vI z7] _ _ _ _ _
          refine wp_goto (tgt := 58) dX12_braid_46 rfl ?_
          exact wp_ireturn dX12_braid_58 rfl ⟨rfl, rfl⟩ ⟨rfl, q7⟩
      ·
        refine wp_aload_n dX12_braid_28 rfl rfl ?_
        refine wp_iload_n dX12_braid_29 rfl rfl ?_
        refine wp_inlV (d' := d) (S := []) (as := [vI x1]) dX12_braid_30 lX12_375 (by omega) sh369 rfl rfl (Nat.le_of_ble_eq_true rfl) ⟨Nat.le_refl _, Nat.le_refl _⟩ (Mt.of2 (L := [some (vR 369), some (vI x1)]) pnX12 rfl rfl ?_)
        refine wp_aload_n dX12_strandsOf_0 rfl rfl ?_
        refine wp_getR (b := 381) dX12_strandsOf_1 fX12_93 rfl sh369 (by decide) rfl ?_
        refine wp_bipush dX12_strandsOf_4 (by decide) ?_
        refine wp_iload_n dX12_strandsOf_6 rfl rfl ?_
        refine wp_iadd dX12_strandsOf_7 ?_
        refine wp_iald dX12_strandsOf_8 sh381 ((q3.1 c4).2 c5).1 ?_
        refine wp_ireturn dX12_strandsOf_9 rfl ⟨rfl, rfl⟩ ?_
        show Wp _ _ _ _ _ 33 _ [vI (V3 381 (Int.toNat (w32 (85 + x1))))] _ _ _ _ _
        refine wp_goto (tgt := 58) dX12_braid_33 rfl ?_
        exact wp_ireturn dX12_braid_58 rfl ⟨rfl, rfl⟩ ⟨rfl, ((q3.1 c4).2 c5).2⟩
    ·
      refine wp_iconst dX12_braid_22 (by decide) ?_
      exact wp_ireturn dX12_braid_23 rfl ⟨rfl, rfl⟩ ⟨rfl, (q3.2 c4)⟩
set_option maxHeartbeats 4000000 in
set_option maxRecDepth 10000 in
theorem sX12_ends {K : KK} {d : Nat} {V : Mem} {Q : Option AV → Mem → Prop} (x1 : Int) (x2 : Int) (h : Mf K d mX12_isBraid [vR 369, vI x1] (upm V 369 0 0) (fun r V1 => ∃ z1, r = some (vI z1) ∧ ((z1 = 0 → Q (some (vI (-1))) V1) ∧ (¬ (z1 = 0) → (((0 : Int) ≤ (w32 (85 + x1)) ∧ (w32 (85 + x1)) < (4532 : Nat)) ∧ Mf K d mX12_within [vI x2, vI 0, vI (w32 ((V1 381 (Int.toNat (w32 (85 + x1)))) - 1))] V1 (fun r V3 => ∃ z3, r = some (vI z3) ∧ ((z3 = 0 → Q (some (vI (-1))) V3) ∧ (¬ (z3 = 0) → (((0 : Int) ≤ (w32 ((w32 (101 + (w32 (10 * x1)))) + x2)) ∧ (w32 ((w32 (101 + (w32 (10 * x1)))) + x2)) < (4532 : Nat)) ∧ Q (some (vI (V3 381 (Int.toNat (w32 ((w32 (101 + (w32 (10 * x1)))) + x2)))))) V3))))))))) : Mf K (d + 1) mX12_ends [vR 369, vI x1, vI x2] V Q := by
  refine Mt.of2 (L := [some (vR 369), some (vI x1), some (vI x2)]) pnX12 rfl rfl ?_
  refine wp_aload_n dX12_ends_0 rfl rfl ?_
  refine wp_iconst dX12_ends_1 (by decide) ?_
  refine wp_putI dX12_ends_2 fwX12_1 rfl sh369 (by decide) ?_
  refine wp_aload_n dX12_ends_5 rfl rfl ?_
  refine wp_iload_n dX12_ends_6 rfl rfl ?_
  refine wp_callV (S := []) (as := [vI x1]) dX12_ends_7 lX12_381 (h) (by omega) sh369 rfl rfl (Nat.le_of_ble_eq_true rfl) ⟨Nat.le_refl _, Nat.le_refl _⟩ ?_
  rintro _ _ V1 ⟨rfl, z1, rfl, q1⟩
  show Wp _ _ _ _ _ 10 _ [vI z1] _ _ _ _ _
  refine wp_if_eq (tgt := 37) dX12_ends_10 rfl (fun c2 => ?_) (fun c2 => ?_)
  ·
    refine wp_iconst dX12_ends_37 (by decide) ?_
    exact wp_ireturn dX12_ends_38 rfl ⟨rfl, rfl⟩ ⟨rfl, (q1.1 c2)⟩
  ·
    refine wp_iload_n dX12_ends_13 rfl rfl ?_
    refine wp_iconst dX12_ends_14 (by decide) ?_
    refine wp_aload_n dX12_ends_15 rfl rfl ?_
    refine wp_iload_n dX12_ends_16 rfl rfl ?_
    refine wp_inlV (d' := d) (S := [vI 0, vI x2]) (as := [vI x1]) dX12_ends_17 lX12_375 (by omega) sh369 rfl rfl (Nat.le_of_ble_eq_true rfl) ⟨Nat.le_refl _, Nat.le_refl _⟩ (Mt.of2 (L := [some (vR 369), some (vI x1)]) pnX12 rfl rfl ?_)
    refine wp_aload_n dX12_strandsOf_0 rfl rfl ?_
    refine wp_getR (b := 381) dX12_strandsOf_1 fX12_93 rfl sh369 (by decide) rfl ?_
    refine wp_bipush dX12_strandsOf_4 (by decide) ?_
    refine wp_iload_n dX12_strandsOf_6 rfl rfl ?_
    refine wp_iadd dX12_strandsOf_7 ?_
    refine wp_iald dX12_strandsOf_8 sh381 (q1.2 c2).1 ?_
    refine wp_ireturn dX12_strandsOf_9 rfl ⟨rfl, rfl⟩ ?_
    show Wp _ _ _ _ _ 20 _ [vI (V1 381 (Int.toNat (w32 (85 + x1)))), vI 0, vI x2] _ _ _ _ _
    refine wp_iconst dX12_ends_20 (by decide) ?_
    refine wp_isub dX12_ends_21 ?_
    refine wp_callS (S := []) (as := [vI x2, vI 0, vI (w32 ((V1 381 (Int.toNat (w32 (85 + x1)))) - 1))]) dX12_ends_22 lX12_358 ((q1.2 c2).2) (by omega) rfl rfl (Nat.le_of_ble_eq_true rfl) ⟨Nat.le_refl _, Nat.le_refl _⟩ ?_
    rintro _ _ V3 ⟨rfl, z3, rfl, q3⟩
    show Wp _ _ _ _ _ 25 _ [vI z3] _ _ _ _ _
    refine wp_if_eq (tgt := 37) dX12_ends_25 rfl (fun c4 => ?_) (fun c4 => ?_)
    ·
      refine wp_iconst dX12_ends_37 (by decide) ?_
      exact wp_ireturn dX12_ends_38 rfl ⟨rfl, rfl⟩ ⟨rfl, (q3.1 c4)⟩
    ·
      refine wp_aload_n dX12_ends_28 rfl rfl ?_
      refine wp_iload_n dX12_ends_29 rfl rfl ?_
      refine wp_iload_n dX12_ends_30 rfl rfl ?_
      refine wp_inlV (d' := d) (S := []) (as := [vI x1, vI x2]) dX12_ends_31 lX12_378 (by omega) sh369 rfl rfl (Nat.le_of_ble_eq_true rfl) ⟨Nat.le_refl _, Nat.le_refl _⟩ (Mt.of2 (L := [some (vR 369), some (vI x1), some (vI x2)]) pnX12 rfl rfl ?_)
      refine wp_aload_n dX12_endOf_0 rfl rfl ?_
      refine wp_getR (b := 381) dX12_endOf_1 fX12_93 rfl sh369 (by decide) rfl ?_
      refine wp_bipush dX12_endOf_4 (by decide) ?_
      refine wp_bipush dX12_endOf_6 (by decide) ?_
      refine wp_iload_n dX12_endOf_8 rfl rfl ?_
      refine wp_imul dX12_endOf_9 ?_
      refine wp_iadd dX12_endOf_10 ?_
      refine wp_iload_n dX12_endOf_11 rfl rfl ?_
      refine wp_iadd dX12_endOf_12 ?_
      refine wp_iald dX12_endOf_13 sh381 (q3.2 c4).1 ?_
      refine wp_ireturn dX12_endOf_14 rfl ⟨rfl, rfl⟩ ?_
      show Wp _ _ _ _ _ 34 _ [vI (V3 381 (Int.toNat (w32 ((w32 (101 + (w32 (10 * x1)))) + x2))))] _ _ _ _ _
      refine wp_goto (tgt := 38) dX12_ends_34 rfl ?_
      exact wp_ireturn dX12_ends_38 rfl ⟨rfl, rfl⟩ ⟨rfl, (q3.2 c4).2⟩
set_option maxHeartbeats 4000000 in
set_option maxRecDepth 10000 in
theorem sX12_counts {K : KK} {d : Nat} {V : Mem} {Q : Option AV → Mem → Prop} (x1 : Int) (x2 : Int) (x3 : Int) (h : Mf K d mX12_isBraid [vR 369, vI x1] (upm V 369 0 0) (fun r V1 => ∃ z1, r = some (vI z1) ∧ ((z1 = 0 → Q (some (vI (-1))) V1) ∧ (¬ (z1 = 0) → (((0 : Int) ≤ (w32 (85 + x1)) ∧ (w32 (85 + x1)) < (4532 : Nat)) ∧ Mf K d mX12_within [vI x2, vI 0, vI (V1 381 (Int.toNat (w32 (85 + x1))))] V1 (fun r V3 => ∃ z3, r = some (vI z3) ∧ ((z3 = 0 → Q (some (vI (-1))) V3) ∧ (¬ (z3 = 0) → (((0 : Int) ≤ (w32 (85 + x1)) ∧ (w32 (85 + x1)) < (4532 : Nat)) ∧ Mf K d mX12_within [vI x3, vI 0, vI (V3 381 (Int.toNat (w32 (85 + x1))))] V3 (fun r V5 => ∃ z5, r = some (vI z5) ∧ ((¬ z5 = 0 → Mf K d mX12_laysBraid [vR 369, vI 0, vI x1, vR 394] V5 (fun r V7 => r = none ∧ (((0 : Int) ≤ (w32 (85 + x1)) ∧ (w32 (85 + x1)) < (4532 : Nat)) ∧ Mf K d mX12_countOf [vR 394, vI (V7 381 (Int.toNat (w32 (85 + x1)))), vI x2, vI x3] V7 (fun r V8 => ∃ z8, r = some (vI z8) ∧ Q (some (vI z8)) V8)))) ∧ (z5 = 0 → Q (some (vI (-1))) V5)))))))))))) : Mf K (d + 1) mX12_counts [vR 369, vI x1, vI x2, vI x3] V Q := by
  refine Mt.of2 (L := [some (vR 369), some (vI x1), some (vI x2), some (vI x3)]) pnX12 rfl rfl ?_
  refine wp_aload_n dX12_counts_0 rfl rfl ?_
  refine wp_iconst dX12_counts_1 (by decide) ?_
  refine wp_putI dX12_counts_2 fwX12_1 rfl sh369 (by decide) ?_
  refine wp_aload_n dX12_counts_5 rfl rfl ?_
  refine wp_iload_n dX12_counts_6 rfl rfl ?_
  refine wp_callV (S := []) (as := [vI x1]) dX12_counts_7 lX12_381 (h) (by omega) sh369 rfl rfl (Nat.le_of_ble_eq_true rfl) ⟨Nat.le_refl _, Nat.le_refl _⟩ ?_
  rintro _ _ V1 ⟨rfl, z1, rfl, q1⟩
  show Wp _ _ _ _ _ 10 _ [vI z1] _ _ _ _ _
  refine wp_if_eq (tgt := 39) dX12_counts_10 rfl (fun c2 => ?_) (fun c2 => ?_)
  ·
    refine wp_iconst dX12_counts_39 (by decide) ?_
    exact wp_ireturn dX12_counts_40 rfl ⟨rfl, rfl⟩ ⟨rfl, (q1.1 c2)⟩
  ·
    refine wp_iload_n dX12_counts_13 rfl rfl ?_
    refine wp_iconst dX12_counts_14 (by decide) ?_
    refine wp_aload_n dX12_counts_15 rfl rfl ?_
    refine wp_iload_n dX12_counts_16 rfl rfl ?_
    refine wp_inlV (d' := d) (S := [vI 0, vI x2]) (as := [vI x1]) dX12_counts_17 lX12_375 (by omega) sh369 rfl rfl (Nat.le_of_ble_eq_true rfl) ⟨Nat.le_refl _, Nat.le_refl _⟩ (Mt.of2 (L := [some (vR 369), some (vI x1)]) pnX12 rfl rfl ?_)
    refine wp_aload_n dX12_strandsOf_0 rfl rfl ?_
    refine wp_getR (b := 381) dX12_strandsOf_1 fX12_93 rfl sh369 (by decide) rfl ?_
    refine wp_bipush dX12_strandsOf_4 (by decide) ?_
    refine wp_iload_n dX12_strandsOf_6 rfl rfl ?_
    refine wp_iadd dX12_strandsOf_7 ?_
    refine wp_iald dX12_strandsOf_8 sh381 (q1.2 c2).1 ?_
    refine wp_ireturn dX12_strandsOf_9 rfl ⟨rfl, rfl⟩ ?_
    show Wp _ _ _ _ _ 20 _ [vI (V1 381 (Int.toNat (w32 (85 + x1)))), vI 0, vI x2] _ _ _ _ _
    refine wp_callS (S := []) (as := [vI x2, vI 0, vI (V1 381 (Int.toNat (w32 (85 + x1))))]) dX12_counts_20 lX12_358 ((q1.2 c2).2) (by omega) rfl rfl (Nat.le_of_ble_eq_true rfl) ⟨Nat.le_refl _, Nat.le_refl _⟩ ?_
    rintro _ _ V3 ⟨rfl, z3, rfl, q3⟩
    show Wp _ _ _ _ _ 23 _ [vI z3] _ _ _ _ _
    refine wp_if_eq (tgt := 39) dX12_counts_23 rfl (fun c4 => ?_) (fun c4 => ?_)
    ·
      refine wp_iconst dX12_counts_39 (by decide) ?_
      exact wp_ireturn dX12_counts_40 rfl ⟨rfl, rfl⟩ ⟨rfl, (q3.1 c4)⟩
    ·
      refine wp_iload_n dX12_counts_26 rfl rfl ?_
      refine wp_iconst dX12_counts_27 (by decide) ?_
      refine wp_aload_n dX12_counts_28 rfl rfl ?_
      refine wp_iload_n dX12_counts_29 rfl rfl ?_
      refine wp_inlV (d' := d) (S := [vI 0, vI x3]) (as := [vI x1]) dX12_counts_30 lX12_375 (by omega) sh369 rfl rfl (Nat.le_of_ble_eq_true rfl) ⟨Nat.le_refl _, Nat.le_refl _⟩ (Mt.of2 (L := [some (vR 369), some (vI x1)]) pnX12 rfl rfl ?_)
      refine wp_aload_n dX12_strandsOf_0 rfl rfl ?_
      refine wp_getR (b := 381) dX12_strandsOf_1 fX12_93 rfl sh369 (by decide) rfl ?_
      refine wp_bipush dX12_strandsOf_4 (by decide) ?_
      refine wp_iload_n dX12_strandsOf_6 rfl rfl ?_
      refine wp_iadd dX12_strandsOf_7 ?_
      refine wp_iald dX12_strandsOf_8 sh381 (q3.2 c4).1 ?_
      refine wp_ireturn dX12_strandsOf_9 rfl ⟨rfl, rfl⟩ ?_
      show Wp _ _ _ _ _ 33 _ [vI (V3 381 (Int.toNat (w32 (85 + x1)))), vI 0, vI x3] _ _ _ _ _
      refine wp_callS (S := []) (as := [vI x3, vI 0, vI (V3 381 (Int.toNat (w32 (85 + x1))))]) dX12_counts_33 lX12_358 ((q3.2 c4).2) (by omega) rfl rfl (Nat.le_of_ble_eq_true rfl) ⟨Nat.le_refl _, Nat.le_refl _⟩ ?_
      rintro _ _ V5 ⟨rfl, z5, rfl, q5⟩
      show Wp _ _ _ _ _ 36 _ [vI z5] _ _ _ _ _
      refine wp_if_ne (tgt := 41) dX12_counts_36 rfl (fun c6 => ?_) (fun c6 => ?_)
      ·
        refine wp_aload_n dX12_counts_41 rfl rfl ?_
        refine wp_iconst dX12_counts_42 (by decide) ?_
        refine wp_iload_n dX12_counts_43 rfl rfl ?_
        refine wp_aload_n dX12_counts_44 rfl rfl ?_
        refine wp_getR (b := 394) dX12_counts_45 fX12_133 rfl sh369 (by decide) rfl ?_
        refine wp_callV (S := []) (as := [vI 0, vI x1, vR 394]) dX12_counts_48 lX12_387 ((q5.1 c6)) (by omega) sh369 rfl rfl (Nat.le_of_ble_eq_true rfl) ⟨Nat.le_refl _, Nat.le_refl _⟩ ?_
        rintro _ _ V7 ⟨rfl, rfl, q7⟩
        show Wp _ _ _ _ _ 51 _ [] _ _ _ _ _
        refine wp_aload_n dX12_counts_51 rfl rfl ?_
        refine wp_getR (b := 394) dX12_counts_52 fX12_133 rfl sh369 (by decide) rfl ?_
        refine wp_aload_n dX12_counts_55 rfl rfl ?_
        refine wp_iload_n dX12_counts_56 rfl rfl ?_
        refine wp_inlV (d' := d) (S := [vR 394]) (as := [vI x1]) dX12_counts_57 lX12_375 (by omega) sh369 rfl rfl (Nat.le_of_ble_eq_true rfl) ⟨Nat.le_refl _, Nat.le_refl _⟩ (Mt.of2 (L := [some (vR 369), some (vI x1)]) pnX12 rfl rfl ?_)
        refine wp_aload_n dX12_strandsOf_0 rfl rfl ?_
        refine wp_getR (b := 381) dX12_strandsOf_1 fX12_93 rfl sh369 (by decide) rfl ?_
        refine wp_bipush dX12_strandsOf_4 (by decide) ?_
        refine wp_iload_n dX12_strandsOf_6 rfl rfl ?_
        refine wp_iadd dX12_strandsOf_7 ?_
        refine wp_iald dX12_strandsOf_8 sh381 q7.1 ?_
        refine wp_ireturn dX12_strandsOf_9 rfl ⟨rfl, rfl⟩ ?_
        show Wp _ _ _ _ _ 60 _ [vI (V7 381 (Int.toNat (w32 (85 + x1)))), vR 394] _ _ _ _ _
        refine wp_iload_n dX12_counts_60 rfl rfl ?_
        refine wp_iload_n dX12_counts_61 rfl rfl ?_
        refine wp_callS (S := []) (as := [vR 394, vI (V7 381 (Int.toNat (w32 (85 + x1)))), vI x2, vI x3]) dX12_counts_62 lX12_367 (q7.2) (by omega) rfl rfl (Nat.le_of_ble_eq_true rfl) ⟨Nat.le_refl _, Nat.le_refl _⟩ ?_
        rintro _ _ V8 ⟨rfl, z8, rfl, q8⟩
        show Wp _ _ _ _ _ 65 _ [vI z8] _ _ _ _ _
        exact wp_ireturn dX12_counts_65 rfl ⟨rfl, rfl⟩ ⟨rfl, q8⟩
      ·
        refine wp_iconst dX12_counts_39 (by decide) ?_
        exact wp_ireturn dX12_counts_40 rfl ⟨rfl, rfl⟩ ⟨rfl, (q5.2 c6)⟩
set_option maxHeartbeats 4000000 in
set_option maxRecDepth 10000 in
theorem sX12_areAlike {K : KK} {d : Nat} {V : Mem} {Q : Option AV → Mem → Prop} (x1 : Int) (x2 : Int) (x3 : Int) (h : (((0 : Int) ≤ (w32 ((w32 (x1 + 85)) + x2)) ∧ (w32 ((w32 (x1 + 85)) + x2)) < (4532 : Nat)) ∧ (((0 : Int) ≤ (w32 ((w32 (x1 + 85)) + x3)) ∧ (w32 ((w32 (x1 + 85)) + x3)) < (4532 : Nat)) ∧ ((¬ (V 381 (Int.toNat (w32 ((w32 (x1 + 85)) + x2)))) = (V 381 (Int.toNat (w32 ((w32 (x1 + 85)) + x3)))) → Q (some (vI 0)) V) ∧ ((V 381 (Int.toNat (w32 ((w32 (x1 + 85)) + x2)))) = (V 381 (Int.toNat (w32 ((w32 (x1 + 85)) + x3)))) → Q (some (vI 1)) V))))) : Mf K d mX12_areAlike [vR 369, vI x1, vI x2, vI x3] V Q := by
  refine Mt.of2 (L := [some (vR 369), some (vI x1), some (vI x2), some (vI x3)]) pnX12 rfl rfl ?_
  refine wp_aload_n dX12_areAlike_0 rfl rfl ?_
  refine wp_getR (b := 381) dX12_areAlike_1 fX12_93 rfl sh369 (by decide) rfl ?_
  refine wp_iload_n dX12_areAlike_4 rfl rfl ?_
  refine wp_bipush dX12_areAlike_5 (by decide) ?_
  refine wp_iadd dX12_areAlike_7 ?_
  refine wp_iload_n dX12_areAlike_8 rfl rfl ?_
  refine wp_iadd dX12_areAlike_9 ?_
  refine wp_iald dX12_areAlike_10 sh381 h.1 ?_
  refine wp_aload_n dX12_areAlike_11 rfl rfl ?_
  refine wp_getR (b := 381) dX12_areAlike_12 fX12_93 rfl sh369 (by decide) rfl ?_
  refine wp_iload_n dX12_areAlike_15 rfl rfl ?_
  refine wp_bipush dX12_areAlike_16 (by decide) ?_
  refine wp_iadd dX12_areAlike_18 ?_
  refine wp_iload_n dX12_areAlike_19 rfl rfl ?_
  refine wp_iadd dX12_areAlike_20 ?_
  refine wp_iald dX12_areAlike_21 sh381 h.2.1 ?_
  refine wp_icmp_ne (tgt := 29) dX12_areAlike_22 rfl (fun c1 => ?_) (fun c1 => ?_)
  ·
    refine wp_iconst dX12_areAlike_29 (by decide) ?_
    exact wp_zreturn dX12_areAlike_30 rfl ⟨rfl, rfl⟩ (by decide) ⟨rfl, (h.2.2.1 c1)⟩
  ·
    refine wp_iconst dX12_areAlike_25 (by decide) ?_
    refine wp_goto (tgt := 30) dX12_areAlike_26 rfl ?_
    exact wp_zreturn dX12_areAlike_30 rfl ⟨rfl, rfl⟩ (by decide) ⟨rfl, (h.2.2.2 c1)⟩
set_option maxHeartbeats 4000000 in
set_option maxRecDepth 10000 in
theorem sX12_compose {K : KK} {d : Nat} {V : Mem} {Q : Option AV → Mem → Prop} (x1 : Int) (x2 : Int) (x3 : Int) (h : Mf K d mX12_isBraid [vR 369, vI x1] (upm V 369 0 0) (fun r V1 => ∃ z1, r = some (vI z1) ∧ ((z1 = 0 → Q (some (vI (-1))) V1) ∧ (¬ (z1 = 0) → Mf K d mX12_isBraid [vR 369, vI x2] V1 (fun r V3 => ∃ z3, r = some (vI z3) ∧ ((z3 = 0 → Q (some (vI (-1))) V3) ∧ (¬ (z3 = 0) → (((0 : Int) ≤ (w32 ((w32 (0 + 85)) + x1)) ∧ (w32 ((w32 (0 + 85)) + x1)) < (4532 : Nat)) ∧ (((0 : Int) ≤ (w32 ((w32 (0 + 85)) + x2)) ∧ (w32 ((w32 (0 + 85)) + x2)) < (4532 : Nat)) ∧ ((¬ (V3 381 (Int.toNat (w32 ((w32 (0 + 85)) + x1)))) = (V3 381 (Int.toNat (w32 ((w32 (0 + 85)) + x2)))) → Q (some (vI (-1))) V3) ∧ ((V3 381 (Int.toNat (w32 ((w32 (0 + 85)) + x1)))) = (V3 381 (Int.toNat (w32 ((w32 (0 + 85)) + x2)))) → (((0 : Int) ≤ (w32 (85 + x1)) ∧ (w32 (85 + x1)) < (4532 : Nat)) ∧ Mf K d mX12_within [vI x3, vI 0, vI (w32 ((V3 381 (Int.toNat (w32 (85 + x1)))) - 1))] V3 (fun r V8 => ∃ z8, r = some (vI z8) ∧ ((¬ z8 = 0 → Mf K d mX12_laysBraid [vR 369, vI 0, vI x1, vR 394] V8 (fun r V10 => r = none ∧ Mf K d mX12_laysBraid [vR 369, vI 0, vI x2, vR 395] V10 (fun r V11 => r = none ∧ (((0 : Int) ≤ (w32 (85 + x1)) ∧ (w32 (85 + x1)) < (4532 : Nat)) ∧ Mf K d mX12_composes [vR 369, vI (V11 381 (Int.toNat (w32 (85 + x1))))] V11 (fun r V12 => r = none ∧ (((0 : Int) ≤ x3 ∧ x3 < (10 : Nat)) ∧ Q (some (vI (V12 396 (Int.toNat x3)))) V12)))))) ∧ (z8 = 0 → Q (some (vI (-1))) V8))))))))))))))) : Mf K (d + 1) mX12_compose [vR 369, vI x1, vI x2, vI x3] V Q := by
  refine Mt.of2 (L := [some (vR 369), some (vI x1), some (vI x2), some (vI x3)]) pnX12 rfl rfl ?_
  refine wp_aload_n dX12_compose_0 rfl rfl ?_
  refine wp_iconst dX12_compose_1 (by decide) ?_
  refine wp_putI dX12_compose_2 fwX12_1 rfl sh369 (by decide) ?_
  refine wp_aload_n dX12_compose_5 rfl rfl ?_
  refine wp_iload_n dX12_compose_6 rfl rfl ?_
  refine wp_callV (S := []) (as := [vI x1]) dX12_compose_7 lX12_381 (h) (by omega) sh369 rfl rfl (Nat.le_of_ble_eq_true rfl) ⟨Nat.le_refl _, Nat.le_refl _⟩ ?_
  rintro _ _ V1 ⟨rfl, z1, rfl, q1⟩
  show Wp _ _ _ _ _ 10 _ [vI z1] _ _ _ _ _
  refine wp_if_eq (tgt := 46) dX12_compose_10 rfl (fun c2 => ?_) (fun c2 => ?_)
  ·
    refine wp_iconst dX12_compose_46 (by decide) ?_
    exact wp_ireturn dX12_compose_47 rfl ⟨rfl, rfl⟩ ⟨rfl, (q1.1 c2)⟩
  ·
    refine wp_aload_n dX12_compose_13 rfl rfl ?_
    refine wp_iload_n dX12_compose_14 rfl rfl ?_
    refine wp_callV (S := []) (as := [vI x2]) dX12_compose_15 lX12_381 ((q1.2 c2)) (by omega) sh369 rfl rfl (Nat.le_of_ble_eq_true rfl) ⟨Nat.le_refl _, Nat.le_refl _⟩ ?_
    rintro _ _ V3 ⟨rfl, z3, rfl, q3⟩
    show Wp _ _ _ _ _ 18 _ [vI z3] _ _ _ _ _
    refine wp_if_eq (tgt := 46) dX12_compose_18 rfl (fun c4 => ?_) (fun c4 => ?_)
    ·
      refine wp_iconst dX12_compose_46 (by decide) ?_
      exact wp_ireturn dX12_compose_47 rfl ⟨rfl, rfl⟩ ⟨rfl, (q3.1 c4)⟩
    ·
      refine wp_aload_n dX12_compose_21 rfl rfl ?_
      refine wp_iconst dX12_compose_22 (by decide) ?_
      refine wp_iload_n dX12_compose_23 rfl rfl ?_
      refine wp_iload_n dX12_compose_24 rfl rfl ?_
      refine wp_inlV (d' := d) (S := []) (as := [vI 0, vI x1, vI x2]) dX12_compose_25 lX12_391 (by omega) sh369 rfl rfl (Nat.le_of_ble_eq_true rfl) ⟨Nat.le_refl _, Nat.le_refl _⟩ (Mt.of2 (L := [some (vR 369), some (vI 0), some (vI x1), some (vI x2)]) pnX12 rfl rfl ?_)
      refine wp_aload_n dX12_areAlike_0 rfl rfl ?_
      refine wp_getR (b := 381) dX12_areAlike_1 fX12_93 rfl sh369 (by decide) rfl ?_
      refine wp_iload_n dX12_areAlike_4 rfl rfl ?_
      refine wp_bipush dX12_areAlike_5 (by decide) ?_
      refine wp_iadd dX12_areAlike_7 ?_
      refine wp_iload_n dX12_areAlike_8 rfl rfl ?_
      refine wp_iadd dX12_areAlike_9 ?_
      refine wp_iald dX12_areAlike_10 sh381 (q3.2 c4).1 ?_
      refine wp_aload_n dX12_areAlike_11 rfl rfl ?_
      refine wp_getR (b := 381) dX12_areAlike_12 fX12_93 rfl sh369 (by decide) rfl ?_
      refine wp_iload_n dX12_areAlike_15 rfl rfl ?_
      refine wp_bipush dX12_areAlike_16 (by decide) ?_
      refine wp_iadd dX12_areAlike_18 ?_
      refine wp_iload_n dX12_areAlike_19 rfl rfl ?_
      refine wp_iadd dX12_areAlike_20 ?_
      refine wp_iald dX12_areAlike_21 sh381 (q3.2 c4).2.1 ?_
      refine wp_icmp_ne (tgt := 29) dX12_areAlike_22 rfl (fun c5 => ?_) (fun c5 => ?_)
      ·
        refine wp_iconst dX12_areAlike_29 (by decide) ?_
        refine wp_zreturn dX12_areAlike_30 rfl ⟨rfl, rfl⟩ (by decide) ?_
        show Wp _ _ _ _ _ 28 _ [vI 0] _ _ _ _ _
        refine wp_if_eq (tgt := 46) dX12_compose_28 rfl (fun c6 => ?_) (fun c6 => False.elim (by revert c6; decide))
        refine wp_iconst dX12_compose_46 (by decide) ?_
        exact wp_ireturn dX12_compose_47 rfl ⟨rfl, rfl⟩ ⟨rfl, ((q3.2 c4).2.2.1 c5)⟩
      ·
        refine wp_iconst dX12_areAlike_25 (by decide) ?_
        refine wp_goto (tgt := 30) dX12_areAlike_26 rfl ?_
        refine wp_zreturn dX12_areAlike_30 rfl ⟨rfl, rfl⟩ (by decide) ?_
        show Wp _ _ _ _ _ 28 _ [vI 1] _ _ _ _ _
        refine wp_if_eq (tgt := 46) dX12_compose_28 rfl (fun c7 => False.elim (by revert c7; decide)) (fun c7 => ?_)
        refine wp_iload_n dX12_compose_31 rfl rfl ?_
        refine wp_iconst dX12_compose_32 (by decide) ?_
        refine wp_aload_n dX12_compose_33 rfl rfl ?_
        refine wp_iload_n dX12_compose_34 rfl rfl ?_
        refine wp_inlV (d' := d) (S := [vI 0, vI x3]) (as := [vI x1]) dX12_compose_35 lX12_375 (by omega) sh369 rfl rfl (Nat.le_of_ble_eq_true rfl) ⟨Nat.le_refl _, Nat.le_refl _⟩ (Mt.of2 (L := [some (vR 369), some (vI x1)]) pnX12 rfl rfl ?_)
        refine wp_aload_n dX12_strandsOf_0 rfl rfl ?_
        refine wp_getR (b := 381) dX12_strandsOf_1 fX12_93 rfl sh369 (by decide) rfl ?_
        refine wp_bipush dX12_strandsOf_4 (by decide) ?_
        refine wp_iload_n dX12_strandsOf_6 rfl rfl ?_
        refine wp_iadd dX12_strandsOf_7 ?_
        refine wp_iald dX12_strandsOf_8 sh381 ((q3.2 c4).2.2.2 c5).1 ?_
        refine wp_ireturn dX12_strandsOf_9 rfl ⟨rfl, rfl⟩ ?_
        show Wp _ _ _ _ _ 38 _ [vI (V3 381 (Int.toNat (w32 (85 + x1)))), vI 0, vI x3] _ _ _ _ _
        refine wp_iconst dX12_compose_38 (by decide) ?_
        refine wp_isub dX12_compose_39 ?_
        refine wp_callS (S := []) (as := [vI x3, vI 0, vI (w32 ((V3 381 (Int.toNat (w32 (85 + x1)))) - 1))]) dX12_compose_40 lX12_358 (((q3.2 c4).2.2.2 c5).2) (by omega) rfl rfl (Nat.le_of_ble_eq_true rfl) ⟨Nat.le_refl _, Nat.le_refl _⟩ ?_
        rintro _ _ V8 ⟨rfl, z8, rfl, q8⟩
        show Wp _ _ _ _ _ 43 _ [vI z8] _ _ _ _ _
        refine wp_if_ne (tgt := 48) dX12_compose_43 rfl (fun c9 => ?_) (fun c9 => ?_)
        ·
          refine wp_aload_n dX12_compose_48 rfl rfl ?_
          refine wp_iconst dX12_compose_49 (by decide) ?_
          refine wp_iload_n dX12_compose_50 rfl rfl ?_
          refine wp_aload_n dX12_compose_51 rfl rfl ?_
          refine wp_getR (b := 394) dX12_compose_52 fX12_133 rfl sh369 (by decide) rfl ?_
          refine wp_callV (S := []) (as := [vI 0, vI x1, vR 394]) dX12_compose_55 lX12_387 ((q8.1 c9)) (by omega) sh369 rfl rfl (Nat.le_of_ble_eq_true rfl) ⟨Nat.le_refl _, Nat.le_refl _⟩ ?_
          rintro _ _ V10 ⟨rfl, rfl, q10⟩
          show Wp _ _ _ _ _ 58 _ [] _ _ _ _ _
          refine wp_aload_n dX12_compose_58 rfl rfl ?_
          refine wp_iconst dX12_compose_59 (by decide) ?_
          refine wp_iload_n dX12_compose_60 rfl rfl ?_
          refine wp_aload_n dX12_compose_61 rfl rfl ?_
          refine wp_getR (b := 395) dX12_compose_62 fX12_136 rfl sh369 (by decide) rfl ?_
          refine wp_callV (S := []) (as := [vI 0, vI x2, vR 395]) dX12_compose_65 lX12_387 (q10) (by omega) sh369 rfl rfl (Nat.le_of_ble_eq_true rfl) ⟨Nat.le_refl _, Nat.le_refl _⟩ ?_
          rintro _ _ V11 ⟨rfl, rfl, q11⟩
          show Wp _ _ _ _ _ 68 _ [] _ _ _ _ _
          refine wp_aload_n dX12_compose_68 rfl rfl ?_
          refine wp_aload_n dX12_compose_69 rfl rfl ?_
          refine wp_iload_n dX12_compose_70 rfl rfl ?_
          refine wp_inlV (d' := d) (S := [vR 369]) (as := [vI x1]) dX12_compose_71 lX12_375 (by omega) sh369 rfl rfl (Nat.le_of_ble_eq_true rfl) ⟨Nat.le_refl _, Nat.le_refl _⟩ (Mt.of2 (L := [some (vR 369), some (vI x1)]) pnX12 rfl rfl ?_)
          refine wp_aload_n dX12_strandsOf_0 rfl rfl ?_
          refine wp_getR (b := 381) dX12_strandsOf_1 fX12_93 rfl sh369 (by decide) rfl ?_
          refine wp_bipush dX12_strandsOf_4 (by decide) ?_
          refine wp_iload_n dX12_strandsOf_6 rfl rfl ?_
          refine wp_iadd dX12_strandsOf_7 ?_
          refine wp_iald dX12_strandsOf_8 sh381 q11.1 ?_
          refine wp_ireturn dX12_strandsOf_9 rfl ⟨rfl, rfl⟩ ?_
          show Wp _ _ _ _ _ 74 _ [vI (V11 381 (Int.toNat (w32 (85 + x1)))), vR 369] _ _ _ _ _
          refine wp_callV (S := []) (as := [vI (V11 381 (Int.toNat (w32 (85 + x1))))]) dX12_compose_74 lX12_394 (q11.2) (by omega) sh369 rfl rfl (Nat.le_of_ble_eq_true rfl) ⟨Nat.le_refl _, Nat.le_refl _⟩ ?_
          rintro _ _ V12 ⟨rfl, rfl, q12⟩
          show Wp _ _ _ _ _ 77 _ [] _ _ _ _ _
          refine wp_aload_n dX12_compose_77 rfl rfl ?_
          refine wp_getR (b := 396) dX12_compose_78 fX12_139 rfl sh369 (by decide) rfl ?_
          refine wp_iload_n dX12_compose_81 rfl rfl ?_
          refine wp_iald dX12_compose_82 sh396 q12.1 ?_
          exact wp_ireturn dX12_compose_83 rfl ⟨rfl, rfl⟩ ⟨rfl, q12.2⟩
        ·
          refine wp_iconst dX12_compose_46 (by decide) ?_
          exact wp_ireturn dX12_compose_47 rfl ⟨rfl, rfl⟩ ⟨rfl, (q8.2 c9)⟩
set_option maxHeartbeats 4000000 in
set_option maxRecDepth 10000 in
theorem sX12_powers {K : KK} {d : Nat} {V : Mem} {Q : Option AV → Mem → Prop} (x1 : Int) (x2 : Int) (h : Mf K d mX12_laysBraid [vR 369, vI 0, vI x1, vR 394] V (fun r V1 => r = none ∧ Mf K d mX12_laysBraid [vR 369, vI 0, vI x1, vR 395] V1 (fun r V2 => r = none ∧ Wf K (d + 1) mX12_powers 25 [some (vR 369), some (vI x1), some (vI x2), some (vI 1), some (vI 1), none] [] V2 Q))) : Mf K (d + 1) mX12_powers [vR 369, vI x1, vI x2] V Q := by
  refine Mt.of2 (L := [some (vR 369), some (vI x1), some (vI x2), none, none, none]) pnX12 rfl rfl ?_
  refine wp_aload_n dX12_powers_0 rfl rfl ?_
  refine wp_iconst dX12_powers_1 (by decide) ?_
  refine wp_iload_n dX12_powers_2 rfl rfl ?_
  refine wp_aload_n dX12_powers_3 rfl rfl ?_
  refine wp_getR (b := 394) dX12_powers_4 fX12_133 rfl sh369 (by decide) rfl ?_
  refine wp_callV (S := []) (as := [vI 0, vI x1, vR 394]) dX12_powers_7 lX12_387 (h) (by omega) sh369 rfl rfl (Nat.le_of_ble_eq_true rfl) ⟨Nat.le_refl _, Nat.le_refl _⟩ ?_
  rintro _ _ V1 ⟨rfl, rfl, q1⟩
  show Wp _ _ _ _ _ 10 _ [] _ _ _ _ _
  refine wp_aload_n dX12_powers_10 rfl rfl ?_
  refine wp_iconst dX12_powers_11 (by decide) ?_
  refine wp_iload_n dX12_powers_12 rfl rfl ?_
  refine wp_aload_n dX12_powers_13 rfl rfl ?_
  refine wp_getR (b := 395) dX12_powers_14 fX12_136 rfl sh369 (by decide) rfl ?_
  refine wp_callV (S := []) (as := [vI 0, vI x1, vR 395]) dX12_powers_17 lX12_387 (q1) (by omega) sh369 rfl rfl (Nat.le_of_ble_eq_true rfl) ⟨Nat.le_refl _, Nat.le_refl _⟩ ?_
  rintro _ _ V2 ⟨rfl, rfl, q2⟩
  show Wp _ _ _ _ _ 20 _ [] _ _ _ _ _
  refine wp_iconst dX12_powers_20 (by decide) ?_
  refine wp_istore_n dX12_powers_21 rfl (by decide) rfl ?_
  refine wp_iconst dX12_powers_22 (by decide) ?_
  refine wp_istore dX12_powers_23 (by decide) rfl ?_
  exact q2
set_option maxHeartbeats 4000000 in
set_option maxRecDepth 10000 in
theorem sX12_powers_25 {K : KK} {d : Nat} {V : Mem} {Q : Option AV → Mem → Prop} (x1 : Int) (x2 : Int) (x3 : Int) (x4 : Int) (h : ((x2 ≤ x4 → ((x3 = 0 ∨ x3 = 1) ∧ Q (some (vI x3)) V)) ∧ (¬ (x2 ≤ x4) → (((0 : Int) ≤ (w32 (85 + x1)) ∧ (w32 (85 + x1)) < (4532 : Nat)) ∧ Mf K d mX12_composes [vR 369, vI (V 381 (Int.toNat (w32 (85 + x1))))] V (fun r V2 => r = none ∧ Wf K (d + 1) mX12_powers 45 [some (vR 369), some (vI x1), some (vI x2), some (vI 0), some (vI x4), some (vI 0)] [] V2 Q))))) : Wf K (d + 1) mX12_powers 25 [some (vR 369), some (vI x1), some (vI x2), some (vI x3), some (vI x4), none] [] V Q := by
  refine wp_iload dX12_powers_25 rfl ?_
  refine wp_iload_n dX12_powers_27 rfl rfl ?_
  refine wp_icmp_ge (tgt := 108) dX12_powers_28 rfl (fun c1 => ?_) (fun c1 => ?_)
  ·
    refine wp_iload_n dX12_powers_108 rfl rfl ?_
    exact wp_zreturn dX12_powers_109 rfl ⟨rfl, rfl⟩ (h.1 c1).1 ⟨rfl, (h.1 c1).2⟩
  ·
    refine wp_aload_n dX12_powers_31 rfl rfl ?_
    refine wp_aload_n dX12_powers_32 rfl rfl ?_
    refine wp_iload_n dX12_powers_33 rfl rfl ?_
    refine wp_inlV (d' := d) (S := [vR 369]) (as := [vI x1]) dX12_powers_34 lX12_375 (by omega) sh369 rfl rfl (Nat.le_of_ble_eq_true rfl) ⟨Nat.le_refl _, Nat.le_refl _⟩ (Mt.of2 (L := [some (vR 369), some (vI x1)]) pnX12 rfl rfl ?_)
    refine wp_aload_n dX12_strandsOf_0 rfl rfl ?_
    refine wp_getR (b := 381) dX12_strandsOf_1 fX12_93 rfl sh369 (by decide) rfl ?_
    refine wp_bipush dX12_strandsOf_4 (by decide) ?_
    refine wp_iload_n dX12_strandsOf_6 rfl rfl ?_
    refine wp_iadd dX12_strandsOf_7 ?_
    refine wp_iald dX12_strandsOf_8 sh381 (h.2 c1).1 ?_
    refine wp_ireturn dX12_strandsOf_9 rfl ⟨rfl, rfl⟩ ?_
    show Wp _ _ _ _ _ 37 _ [vI (V 381 (Int.toNat (w32 (85 + x1)))), vR 369] _ _ _ _ _
    refine wp_callV (S := []) (as := [vI (V 381 (Int.toNat (w32 (85 + x1))))]) dX12_powers_37 lX12_394 ((h.2 c1).2) (by omega) sh369 rfl rfl (Nat.le_of_ble_eq_true rfl) ⟨Nat.le_refl _, Nat.le_refl _⟩ ?_
    rintro _ _ V2 ⟨rfl, rfl, q2⟩
    show Wp _ _ _ _ _ 40 _ [] _ _ _ _ _
    refine wp_iconst dX12_powers_40 (by decide) ?_
    refine wp_istore_n dX12_powers_41 rfl (by decide) rfl ?_
    refine wp_iconst dX12_powers_42 (by decide) ?_
    refine wp_istore dX12_powers_43 (by decide) rfl ?_
    exact q2
set_option maxHeartbeats 4000000 in
set_option maxRecDepth 10000 in
theorem sX12_powers_45 {K : KK} {d : Nat} {V : Mem} {Q : Option AV → Mem → Prop} (x1 : Int) (x2 : Int) (x3 : Int) (x4 : Int) (x5 : Int) (h : (((0 : Int) ≤ (w32 (85 + x1)) ∧ (w32 (85 + x1)) < (4532 : Nat)) ∧ (((V 381 (Int.toNat (w32 (85 + x1)))) ≤ x5 → Wf K (d + 1) mX12_powers 25 [some (vR 369), some (vI x1), some (vI x2), some (vI x3), some (vI (w32 (x4 + 1))), none] [] V Q) ∧ (¬ ((V 381 (Int.toNat (w32 (85 + x1)))) ≤ x5) → ((¬ x3 = 0 → (((0 : Int) ≤ x5 ∧ x5 < (10 : Nat)) ∧ (((0 : Int) ≤ x5 ∧ x5 < (10 : Nat)) ∧ Wf K (d + 1) mX12_powers 45 [some (vR 369), some (vI x1), some (vI x2), some (vI 1), some (vI x4), some (vI (w32 (x5 + 1)))] [] (upm V 394 (Int.toNat x5) (V 396 (Int.toNat x5))) Q))) ∧ (x3 = 0 → (((0 : Int) ≤ x5 ∧ x5 < (10 : Nat)) ∧ (((0 : Int) ≤ x5 ∧ x5 < (10 : Nat)) ∧ (((V 394 (Int.toNat x5)) = (V 396 (Int.toNat x5)) → (((0 : Int) ≤ x5 ∧ x5 < (10 : Nat)) ∧ (((0 : Int) ≤ x5 ∧ x5 < (10 : Nat)) ∧ Wf K (d + 1) mX12_powers 45 [some (vR 369), some (vI x1), some (vI x2), some (vI 0), some (vI x4), some (vI (w32 (x5 + 1)))] [] (upm V 394 (Int.toNat x5) (V 396 (Int.toNat x5))) Q))) ∧ (¬ ((V 394 (Int.toNat x5)) = (V 396 (Int.toNat x5))) → (((0 : Int) ≤ x5 ∧ x5 < (10 : Nat)) ∧ (((0 : Int) ≤ x5 ∧ x5 < (10 : Nat)) ∧ Wf K (d + 1) mX12_powers 45 [some (vR 369), some (vI x1), some (vI x2), some (vI 1), some (vI x4), some (vI (w32 (x5 + 1)))] [] (upm V 394 (Int.toNat x5) (V 396 (Int.toNat x5))) Q)))))))))))) : Wf K (d + 1) mX12_powers 45 [some (vR 369), some (vI x1), some (vI x2), some (vI x3), some (vI x4), some (vI x5)] [] V Q := by
  refine wp_iload dX12_powers_45 rfl ?_
  refine wp_aload_n dX12_powers_47 rfl rfl ?_
  refine wp_iload_n dX12_powers_48 rfl rfl ?_
  refine wp_inlV (d' := d) (S := [vI x5]) (as := [vI x1]) dX12_powers_49 lX12_375 (by omega) sh369 rfl rfl (Nat.le_of_ble_eq_true rfl) ⟨Nat.le_refl _, Nat.le_refl _⟩ (Mt.of2 (L := [some (vR 369), some (vI x1)]) pnX12 rfl rfl ?_)
  refine wp_aload_n dX12_strandsOf_0 rfl rfl ?_
  refine wp_getR (b := 381) dX12_strandsOf_1 fX12_93 rfl sh369 (by decide) rfl ?_
  refine wp_bipush dX12_strandsOf_4 (by decide) ?_
  refine wp_iload_n dX12_strandsOf_6 rfl rfl ?_
  refine wp_iadd dX12_strandsOf_7 ?_
  refine wp_iald dX12_strandsOf_8 sh381 h.1 ?_
  refine wp_ireturn dX12_strandsOf_9 rfl ⟨rfl, rfl⟩ ?_
  show Wp _ _ _ _ _ 52 _ [vI (V 381 (Int.toNat (w32 (85 + x1)))), vI x5] _ _ _ _ _
  refine wp_icmp_ge (tgt := 102) dX12_powers_52 rfl (fun c1 => ?_) (fun c1 => ?_)
  ·
    refine wp_iinc dX12_powers_102 rfl rfl ?_
    refine wp_goto (tgt := 25) dX12_powers_105 rfl ?_
    exact wp_loc (L2 := [some (vR 369), some (vI x1), some (vI x2), some (vI x3), some (vI (w32 (x4 + 1))), none]) ⟨rfl, ⟨rfl, ⟨rfl, ⟨rfl, ⟨rfl, trivial⟩⟩⟩⟩⟩ (h.2.1 c1)
  ·
    refine wp_iload_n dX12_powers_55 rfl rfl ?_
    refine wp_if_ne (tgt := 76) dX12_powers_56 rfl (fun c2 => ?_) (fun c2 => ?_)
    ·
      refine wp_iconst dX12_powers_76 (by decide) ?_
      refine wp_goto (tgt := 81) dX12_powers_77 rfl ?_
      refine wp_istore_n dX12_powers_81 rfl (by decide) rfl ?_
      refine wp_aload_n dX12_powers_82 rfl rfl ?_
      refine wp_getR (b := 394) dX12_powers_83 fX12_133 rfl sh369 (by decide) rfl ?_
      refine wp_iload dX12_powers_86 rfl ?_
      refine wp_aload_n dX12_powers_88 rfl rfl ?_
      refine wp_getR (b := 396) dX12_powers_89 fX12_139 rfl sh369 (by decide) rfl ?_
      refine wp_iload dX12_powers_92 rfl ?_
      refine wp_iald dX12_powers_94 sh396 ((h.2.2 c1).1 c2).1 ?_
      refine wp_iast dX12_powers_95 sh394 ((h.2.2 c1).1 c2).2.1 ?_
      refine wp_iinc dX12_powers_96 rfl rfl ?_
      refine wp_goto (tgt := 45) dX12_powers_99 rfl ?_
      exact ((h.2.2 c1).1 c2).2.2
    ·
      refine wp_aload_n dX12_powers_59 rfl rfl ?_
      refine wp_getR (b := 394) dX12_powers_60 fX12_133 rfl sh369 (by decide) rfl ?_
      refine wp_iload dX12_powers_63 rfl ?_
      refine wp_iald dX12_powers_65 sh394 ((h.2.2 c1).2 c2).1 ?_
      refine wp_aload_n dX12_powers_66 rfl rfl ?_
      refine wp_getR (b := 396) dX12_powers_67 fX12_139 rfl sh369 (by decide) rfl ?_
      refine wp_iload dX12_powers_70 rfl ?_
      refine wp_iald dX12_powers_72 sh396 ((h.2.2 c1).2 c2).2.1 ?_
      refine wp_icmp_eq (tgt := 80) dX12_powers_73 rfl (fun c3 => ?_) (fun c3 => ?_)
      ·
        refine wp_iconst dX12_powers_80 (by decide) ?_
        refine wp_istore_n dX12_powers_81 rfl (by decide) rfl ?_
        refine wp_aload_n dX12_powers_82 rfl rfl ?_
        refine wp_getR (b := 394) dX12_powers_83 fX12_133 rfl sh369 (by decide) rfl ?_
        refine wp_iload dX12_powers_86 rfl ?_
        refine wp_aload_n dX12_powers_88 rfl rfl ?_
        refine wp_getR (b := 396) dX12_powers_89 fX12_139 rfl sh369 (by decide) rfl ?_
        refine wp_iload dX12_powers_92 rfl ?_
        refine wp_iald dX12_powers_94 sh396 (((h.2.2 c1).2 c2).2.2.1 c3).1 ?_
        refine wp_iast dX12_powers_95 sh394 (((h.2.2 c1).2 c2).2.2.1 c3).2.1 ?_
        refine wp_iinc dX12_powers_96 rfl rfl ?_
        refine wp_goto (tgt := 45) dX12_powers_99 rfl ?_
        exact (((h.2.2 c1).2 c2).2.2.1 c3).2.2
      ·
        refine wp_iconst dX12_powers_76 (by decide) ?_
        refine wp_goto (tgt := 81) dX12_powers_77 rfl ?_
        refine wp_istore_n dX12_powers_81 rfl (by decide) rfl ?_
        refine wp_aload_n dX12_powers_82 rfl rfl ?_
        refine wp_getR (b := 394) dX12_powers_83 fX12_133 rfl sh369 (by decide) rfl ?_
        refine wp_iload dX12_powers_86 rfl ?_
        refine wp_aload_n dX12_powers_88 rfl rfl ?_
        refine wp_getR (b := 396) dX12_powers_89 fX12_139 rfl sh369 (by decide) rfl ?_
        refine wp_iload dX12_powers_92 rfl ?_
        refine wp_iald dX12_powers_94 sh396 (((h.2.2 c1).2 c2).2.2.2 c3).1 ?_
        refine wp_iast dX12_powers_95 sh394 (((h.2.2 c1).2 c2).2.2.2 c3).2.1 ?_
        refine wp_iinc dX12_powers_96 rfl rfl ?_
        refine wp_goto (tgt := 45) dX12_powers_99 rfl ?_
        exact (((h.2.2 c1).2 c2).2.2.2 c3).2.2
set_option maxHeartbeats 4000000 in
set_option maxRecDepth 10000 in
theorem sX12_power {K : KK} {d : Nat} {V : Mem} {Q : Option AV → Mem → Prop} (x1 : Int) (x2 : Int) (x3 : Int) (h : Mf K d mX12_isBraid [vR 369, vI x1] (upm V 369 0 0) (fun r V1 => ∃ z1, r = some (vI z1) ∧ ((z1 = 0 → Q (some (vI (-1))) V1) ∧ (¬ (z1 = 0) → Mf K d mX12_within [vI x2, vI 1, vI 20] V1 (fun r V3 => ∃ z3, r = some (vI z3) ∧ ((z3 = 0 → Q (some (vI (-1))) V3) ∧ (¬ (z3 = 0) → (((0 : Int) ≤ (w32 (85 + x1)) ∧ (w32 (85 + x1)) < (4532 : Nat)) ∧ Mf K d mX12_within [vI x3, vI 0, vI (w32 ((V3 381 (Int.toNat (w32 (85 + x1)))) - 1))] V3 (fun r V5 => ∃ z5, r = some (vI z5) ∧ ((¬ z5 = 0 → Mf K d mX12_powers [vR 369, vI x1, vI x2] V5 (fun r V7 => ∃ z7, r = some (vI z7) ∧ (((0 : Int) ≤ x3 ∧ x3 < (10 : Nat)) ∧ Q (some (vI (V7 394 (Int.toNat x3)))) V7))) ∧ (z5 = 0 → Q (some (vI (-1))) V5))))))))))) : Mf K (d + 1) mX12_power [vR 369, vI x1, vI x2, vI x3] V Q := by
  refine Mt.of2 (L := [some (vR 369), some (vI x1), some (vI x2), some (vI x3)]) pnX12 rfl rfl ?_
  refine wp_aload_n dX12_power_0 rfl rfl ?_
  refine wp_iconst dX12_power_1 (by decide) ?_
  refine wp_putI dX12_power_2 fwX12_1 rfl sh369 (by decide) ?_
  refine wp_aload_n dX12_power_5 rfl rfl ?_
  refine wp_iload_n dX12_power_6 rfl rfl ?_
  refine wp_callV (S := []) (as := [vI x1]) dX12_power_7 lX12_381 (h) (by omega) sh369 rfl rfl (Nat.le_of_ble_eq_true rfl) ⟨Nat.le_refl _, Nat.le_refl _⟩ ?_
  rintro _ _ V1 ⟨rfl, z1, rfl, q1⟩
  show Wp _ _ _ _ _ 10 _ [vI z1] _ _ _ _ _
  refine wp_if_eq (tgt := 38) dX12_power_10 rfl (fun c2 => ?_) (fun c2 => ?_)
  ·
    refine wp_iconst dX12_power_38 (by decide) ?_
    exact wp_ireturn dX12_power_39 rfl ⟨rfl, rfl⟩ ⟨rfl, (q1.1 c2)⟩
  ·
    refine wp_iload_n dX12_power_13 rfl rfl ?_
    refine wp_iconst dX12_power_14 (by decide) ?_
    refine wp_bipush dX12_power_15 (by decide) ?_
    refine wp_callS (S := []) (as := [vI x2, vI 1, vI 20]) dX12_power_17 lX12_358 ((q1.2 c2)) (by omega) rfl rfl (Nat.le_of_ble_eq_true rfl) ⟨Nat.le_refl _, Nat.le_refl _⟩ ?_
    rintro _ _ V3 ⟨rfl, z3, rfl, q3⟩
    show Wp _ _ _ _ _ 20 _ [vI z3] _ _ _ _ _
    refine wp_if_eq (tgt := 38) dX12_power_20 rfl (fun c4 => ?_) (fun c4 => ?_)
    ·
      refine wp_iconst dX12_power_38 (by decide) ?_
      exact wp_ireturn dX12_power_39 rfl ⟨rfl, rfl⟩ ⟨rfl, (q3.1 c4)⟩
    ·
      refine wp_iload_n dX12_power_23 rfl rfl ?_
      refine wp_iconst dX12_power_24 (by decide) ?_
      refine wp_aload_n dX12_power_25 rfl rfl ?_
      refine wp_iload_n dX12_power_26 rfl rfl ?_
      refine wp_inlV (d' := d) (S := [vI 0, vI x3]) (as := [vI x1]) dX12_power_27 lX12_375 (by omega) sh369 rfl rfl (Nat.le_of_ble_eq_true rfl) ⟨Nat.le_refl _, Nat.le_refl _⟩ (Mt.of2 (L := [some (vR 369), some (vI x1)]) pnX12 rfl rfl ?_)
      refine wp_aload_n dX12_strandsOf_0 rfl rfl ?_
      refine wp_getR (b := 381) dX12_strandsOf_1 fX12_93 rfl sh369 (by decide) rfl ?_
      refine wp_bipush dX12_strandsOf_4 (by decide) ?_
      refine wp_iload_n dX12_strandsOf_6 rfl rfl ?_
      refine wp_iadd dX12_strandsOf_7 ?_
      refine wp_iald dX12_strandsOf_8 sh381 (q3.2 c4).1 ?_
      refine wp_ireturn dX12_strandsOf_9 rfl ⟨rfl, rfl⟩ ?_
      show Wp _ _ _ _ _ 30 _ [vI (V3 381 (Int.toNat (w32 (85 + x1)))), vI 0, vI x3] _ _ _ _ _
      refine wp_iconst dX12_power_30 (by decide) ?_
      refine wp_isub dX12_power_31 ?_
      refine wp_callS (S := []) (as := [vI x3, vI 0, vI (w32 ((V3 381 (Int.toNat (w32 (85 + x1)))) - 1))]) dX12_power_32 lX12_358 ((q3.2 c4).2) (by omega) rfl rfl (Nat.le_of_ble_eq_true rfl) ⟨Nat.le_refl _, Nat.le_refl _⟩ ?_
      rintro _ _ V5 ⟨rfl, z5, rfl, q5⟩
      show Wp _ _ _ _ _ 35 _ [vI z5] _ _ _ _ _
      refine wp_if_ne (tgt := 40) dX12_power_35 rfl (fun c6 => ?_) (fun c6 => ?_)
      ·
        refine wp_aload_n dX12_power_40 rfl rfl ?_
        refine wp_iload_n dX12_power_41 rfl rfl ?_
        refine wp_iload_n dX12_power_42 rfl rfl ?_
        refine wp_callV (S := []) (as := [vI x1, vI x2]) dX12_power_43 lX12_397 ((q5.1 c6)) (by omega) sh369 rfl rfl (Nat.le_of_ble_eq_true rfl) ⟨Nat.le_refl _, Nat.le_refl _⟩ ?_
        rintro _ _ V7 ⟨rfl, z7, rfl, q7⟩
        show Wp _ _ _ _ _ 46 _ [vI z7] _ _ _ _ _
        refine wp_pop dX12_power_46 rfl ?_
        refine wp_aload_n dX12_power_47 rfl rfl ?_
        refine wp_getR (b := 394) dX12_power_48 fX12_133 rfl sh369 (by decide) rfl ?_
        refine wp_iload_n dX12_power_51 rfl rfl ?_
        refine wp_iald dX12_power_52 sh394 q7.1 ?_
        exact wp_ireturn dX12_power_53 rfl ⟨rfl, rfl⟩ ⟨rfl, q7.2⟩
      ·
        refine wp_iconst dX12_power_38 (by decide) ?_
        exact wp_ireturn dX12_power_39 rfl ⟨rfl, rfl⟩ ⟨rfl, (q5.2 c6)⟩
set_option maxHeartbeats 4000000 in
set_option maxRecDepth 10000 in
theorem sX12_settles {K : KK} {d : Nat} {V : Mem} {Q : Option AV → Mem → Prop} (x1 : Int) (h : Wf K (d + 1) mX12_settles 7 [some (vR 369), some (vI x1), some (vI 1)] [] (upm V 369 0 0) Q) : Mf K (d + 1) mX12_settles [vR 369, vI x1] V Q := by
  refine Mt.of2 (L := [some (vR 369), some (vI x1), none]) pnX12 rfl rfl ?_
  refine wp_aload_n dX12_settles_0 rfl rfl ?_
  refine wp_iconst dX12_settles_1 (by decide) ?_
  refine wp_putI dX12_settles_2 fwX12_1 rfl sh369 (by decide) ?_
  refine wp_iconst dX12_settles_5 (by decide) ?_
  refine wp_istore_n dX12_settles_6 rfl (by decide) rfl ?_
  exact h
set_option maxHeartbeats 4000000 in
set_option maxRecDepth 10000 in
theorem sX12_settles_7 {K : KK} {d : Nat} {V : Mem} {Q : Option AV → Mem → Prop} (x1 : Int) (x2 : Int) (h : ((20 < x2 → Q (some (vI (-1))) V) ∧ (¬ (20 < x2) → Mf K d mX12_isBraid [vR 369, vI x1] V (fun r V2 => ∃ z2, r = some (vI z2) ∧ ((z2 = 0 → Q (some (vI (-1))) V2) ∧ (¬ (z2 = 0) → Mf K d mX12_powers [vR 369, vI x1, vI (w32 (x2 + 1))] V2 (fun r V4 => ∃ z4, r = some (vI z4) ∧ ((¬ z4 = 0 → Wf K (d + 1) mX12_settles 7 [some (vR 369), some (vI x1), some (vI (w32 (x2 + 1)))] [] V4 Q) ∧ (z4 = 0 → Q (some (vI x2)) V4))))))))) : Wf K (d + 1) mX12_settles 7 [some (vR 369), some (vI x1), some (vI x2)] [] V Q := by
  refine wp_iload_n dX12_settles_7 rfl rfl ?_
  refine wp_bipush dX12_settles_8 (by decide) ?_
  refine wp_icmp_gt (tgt := 40) dX12_settles_10 rfl (fun c1 => ?_) (fun c1 => ?_)
  ·
    refine wp_iconst dX12_settles_40 (by decide) ?_
    exact wp_ireturn dX12_settles_41 rfl ⟨rfl, rfl⟩ ⟨rfl, (h.1 c1)⟩
  ·
    refine wp_aload_n dX12_settles_13 rfl rfl ?_
    refine wp_iload_n dX12_settles_14 rfl rfl ?_
    refine wp_callV (S := []) (as := [vI x1]) dX12_settles_15 lX12_381 ((h.2 c1)) (by omega) sh369 rfl rfl (Nat.le_of_ble_eq_true rfl) ⟨Nat.le_refl _, Nat.le_refl _⟩ ?_
    rintro _ _ V2 ⟨rfl, z2, rfl, q2⟩
    show Wp _ _ _ _ _ 18 _ [vI z2] _ _ _ _ _
    refine wp_if_eq (tgt := 40) dX12_settles_18 rfl (fun c3 => ?_) (fun c3 => ?_)
    ·
      refine wp_iconst dX12_settles_40 (by decide) ?_
      exact wp_ireturn dX12_settles_41 rfl ⟨rfl, rfl⟩ ⟨rfl, (q2.1 c3)⟩
    ·
      refine wp_aload_n dX12_settles_21 rfl rfl ?_
      refine wp_iload_n dX12_settles_22 rfl rfl ?_
      refine wp_iload_n dX12_settles_23 rfl rfl ?_
      refine wp_iconst dX12_settles_24 (by decide) ?_
      refine wp_iadd dX12_settles_25 ?_
      refine wp_callV (S := []) (as := [vI x1, vI (w32 (x2 + 1))]) dX12_settles_26 lX12_397 ((q2.2 c3)) (by omega) sh369 rfl rfl (Nat.le_of_ble_eq_true rfl) ⟨Nat.le_refl _, Nat.le_refl _⟩ ?_
      rintro _ _ V4 ⟨rfl, z4, rfl, q4⟩
      show Wp _ _ _ _ _ 29 _ [vI z4] _ _ _ _ _
      refine wp_if_ne (tgt := 34) dX12_settles_29 rfl (fun c5 => ?_) (fun c5 => ?_)
      ·
        refine wp_iinc dX12_settles_34 rfl rfl ?_
        refine wp_goto (tgt := 7) dX12_settles_37 rfl ?_
        exact (q4.1 c5)
      ·
        refine wp_iload_n dX12_settles_32 rfl rfl ?_
        exact wp_ireturn dX12_settles_33 rfl ⟨rfl, rfl⟩ ⟨rfl, (q4.2 c5)⟩
set_option maxHeartbeats 4000000 in
set_option maxRecDepth 10000 in
theorem sX12_knit {K : KK} {d : Nat} {V : Mem} {Q : Option AV → Mem → Prop} (x1 : Int) (x2 : Int) (h : Mf K d mX12_isBraid [vR 369, vI x1] (upm V 369 0 0) (fun r V1 => ∃ z1, r = some (vI z1) ∧ ((z1 = 0 → Wf K (d + 1) mX12_knit 17 [none, none, none, none, none, none, none] [] V1 Q) ∧ (¬ (z1 = 0) → ((0 ≤ x2 → (((0 : Int) ≤ (w32 (85 + x1)) ∧ (w32 (85 + x1)) < (4532 : Nat)) ∧ Wf K (d + 1) mX12_knit 28 [some (vR 369), some (vI x1), some (vI x2), some (vI (V1 381 (Int.toNat (w32 (85 + x1))))), some (vI 0), none, none] [] V1 Q)) ∧ (¬ (0 ≤ x2) → Wf K (d + 1) mX12_knit 17 [none, none, none, none, none, none, none] [] V1 Q)))))) : Mf K (d + 1) mX12_knit [vR 369, vI x1, vI x2] V Q := by
  refine Mt.of2 (L := [some (vR 369), some (vI x1), some (vI x2), none, none, none, none]) pnX12 rfl rfl ?_
  refine wp_aload_n dX12_knit_0 rfl rfl ?_
  refine wp_iconst dX12_knit_1 (by decide) ?_
  refine wp_putI dX12_knit_2 fwX12_1 rfl sh369 (by decide) ?_
  refine wp_aload_n dX12_knit_5 rfl rfl ?_
  refine wp_iload_n dX12_knit_6 rfl rfl ?_
  refine wp_callV (S := []) (as := [vI x1]) dX12_knit_7 lX12_381 (h) (by omega) sh369 rfl rfl (Nat.le_of_ble_eq_true rfl) ⟨Nat.le_refl _, Nat.le_refl _⟩ ?_
  rintro _ _ V1 ⟨rfl, z1, rfl, q1⟩
  show Wp _ _ _ _ _ 10 _ [vI z1] _ _ _ _ _
  refine wp_if_eq (tgt := 17) dX12_knit_10 rfl (fun c2 => ?_) (fun c2 => ?_)
  ·
    exact wp_loc (L2 := [none, none, none, none, none, none, none]) trivial (q1.1 c2)
  ·
    refine wp_iload_n dX12_knit_13 rfl rfl ?_
    refine wp_if_ge (tgt := 19) dX12_knit_14 rfl (fun c3 => ?_) (fun c3 => ?_)
    ·
      refine wp_aload_n dX12_knit_19 rfl rfl ?_
      refine wp_iload_n dX12_knit_20 rfl rfl ?_
      refine wp_inlV (d' := d) (S := []) (as := [vI x1]) dX12_knit_21 lX12_375 (by omega) sh369 rfl rfl (Nat.le_of_ble_eq_true rfl) ⟨Nat.le_refl _, Nat.le_refl _⟩ (Mt.of2 (L := [some (vR 369), some (vI x1)]) pnX12 rfl rfl ?_)
      refine wp_aload_n dX12_strandsOf_0 rfl rfl ?_
      refine wp_getR (b := 381) dX12_strandsOf_1 fX12_93 rfl sh369 (by decide) rfl ?_
      refine wp_bipush dX12_strandsOf_4 (by decide) ?_
      refine wp_iload_n dX12_strandsOf_6 rfl rfl ?_
      refine wp_iadd dX12_strandsOf_7 ?_
      refine wp_iald dX12_strandsOf_8 sh381 ((q1.2 c2).1 c3).1 ?_
      refine wp_ireturn dX12_strandsOf_9 rfl ⟨rfl, rfl⟩ ?_
      show Wp _ _ _ _ _ 24 _ [vI (V1 381 (Int.toNat (w32 (85 + x1))))] _ _ _ _ _
      refine wp_istore_n dX12_knit_24 rfl (by decide) rfl ?_
      refine wp_iconst dX12_knit_25 (by decide) ?_
      refine wp_istore dX12_knit_26 (by decide) rfl ?_
      exact ((q1.2 c2).1 c3).2
    ·
      exact wp_loc (L2 := [none, none, none, none, none, none, none]) trivial ((q1.2 c2).2 c3)
set_option maxHeartbeats 4000000 in
set_option maxRecDepth 10000 in
theorem sX12_knit_17 {K : KK} {d : Nat} {V : Mem} {Q : Option AV → Mem → Prop}  (h : Q (some (vI (-1))) V) : Wf K (d + 1) mX12_knit 17 [none, none, none, none, none, none, none] [] V Q := by
  refine wp_iconst dX12_knit_17 (by decide) ?_
  exact wp_ireturn dX12_knit_18 rfl ⟨rfl, rfl⟩ ⟨rfl, h⟩
set_option maxHeartbeats 4000000 in
set_option maxRecDepth 10000 in
theorem sX12_knit_28 {K : KK} {d : Nat} {V : Mem} {Q : Option AV → Mem → Prop} (x1 : Int) (x2 : Int) (x3 : Int) (x4 : Int) (h : ((x3 ≤ x4 → Wf K (d + 1) mX12_knit 52 [some (vR 369), some (vI x1), some (vI x2), some (vI x3), some (vI 0), none, none] [] V Q) ∧ (¬ (x3 ≤ x4) → (((0 : Int) ≤ x4 ∧ x4 < (10 : Nat)) ∧ Wf K (d + 1) mX12_knit 28 [some (vR 369), some (vI x1), some (vI x2), some (vI x3), some (vI (w32 (x4 + 1))), none, none] [] (upm V 394 (Int.toNat x4) x4) Q)))) : Wf K (d + 1) mX12_knit 28 [some (vR 369), some (vI x1), some (vI x2), some (vI x3), some (vI x4), none, none] [] V Q := by
  refine wp_iload dX12_knit_28 rfl ?_
  refine wp_iload_n dX12_knit_30 rfl rfl ?_
  refine wp_icmp_ge (tgt := 49) dX12_knit_31 rfl (fun c1 => ?_) (fun c1 => ?_)
  ·
    refine wp_iconst dX12_knit_49 (by decide) ?_
    refine wp_istore dX12_knit_50 (by decide) rfl ?_
    exact (h.1 c1)
  ·
    refine wp_aload_n dX12_knit_34 rfl rfl ?_
    refine wp_getR (b := 394) dX12_knit_35 fX12_133 rfl sh369 (by decide) rfl ?_
    refine wp_iload dX12_knit_38 rfl ?_
    refine wp_iload dX12_knit_40 rfl ?_
    refine wp_iast dX12_knit_42 sh394 (h.2 c1).1 ?_
    refine wp_iinc dX12_knit_43 rfl rfl ?_
    refine wp_goto (tgt := 28) dX12_knit_46 rfl ?_
    exact (h.2 c1).2
set_option maxHeartbeats 4000000 in
set_option maxRecDepth 10000 in
theorem sX12_knit_52 {K : KK} {d : Nat} {V : Mem} {Q : Option AV → Mem → Prop} (x1 : Int) (x2 : Int) (x3 : Int) (x4 : Int) (h : ((45 ≤ x4 → Q (some (vI (-1))) V) ∧ (¬ (45 ≤ x4) → Wf K (d + 1) mX12_knit 62 [some (vR 369), some (vI x1), some (vI x2), some (vI x3), some (vI x4), some (vI 0), none] [] V Q))) : Wf K (d + 1) mX12_knit 52 [some (vR 369), some (vI x1), some (vI x2), some (vI x3), some (vI x4), none, none] [] V Q := by
  refine wp_iload dX12_knit_52 rfl ?_
  refine wp_bipush dX12_knit_54 (by decide) ?_
  refine wp_icmp_ge (tgt := 185) dX12_knit_56 rfl (fun c1 => ?_) (fun c1 => ?_)
  ·
    refine wp_iconst dX12_knit_185 (by decide) ?_
    exact wp_ireturn dX12_knit_186 rfl ⟨rfl, rfl⟩ ⟨rfl, (h.1 c1)⟩
  ·
    refine wp_iconst dX12_knit_59 (by decide) ?_
    refine wp_istore dX12_knit_60 (by decide) rfl ?_
    exact (h.2 c1)
set_option maxHeartbeats 4000000 in
set_option maxRecDepth 10000 in
theorem sX12_knit_62 {K : KK} {d : Nat} {V : Mem} {Q : Option AV → Mem → Prop} (x1 : Int) (x2 : Int) (x3 : Int) (x4 : Int) (x5 : Int) (h : ((x3 ≤ (w32 (x5 + 1)) → Wf K (d + 1) mX12_knit 124 [some (vR 369), some (vI x1), some (vI x2), some (vI x3), some (vI x4), some (vI x5), none] [] V Q) ∧ (¬ (x3 ≤ (w32 (x5 + 1))) → (((0 : Int) ≤ x5 ∧ x5 < (10 : Nat)) ∧ (((0 : Int) ≤ (w32 (x5 + 1)) ∧ (w32 (x5 + 1)) < (10 : Nat)) ∧ (((V 394 (Int.toNat (w32 (x5 + 1)))) ≤ (V 394 (Int.toNat x5)) → Wf K (d + 1) mX12_knit 118 [some (vR 369), some (vI x1), some (vI x2), some (vI x3), some (vI x4), some (vI x5), none] [] V Q) ∧ (¬ ((V 394 (Int.toNat (w32 (x5 + 1)))) ≤ (V 394 (Int.toNat x5))) → (((0 : Int) ≤ x5 ∧ x5 < (10 : Nat)) ∧ (((0 : Int) ≤ (w32 ((w32 (101 + (w32 (10 * x1)))) + (V 394 (Int.toNat x5)))) ∧ (w32 ((w32 (101 + (w32 (10 * x1)))) + (V 394 (Int.toNat x5)))) < (4532 : Nat)) ∧ (((0 : Int) ≤ (w32 (x5 + 1)) ∧ (w32 (x5 + 1)) < (10 : Nat)) ∧ (((0 : Int) ≤ (w32 ((w32 (101 + (w32 (10 * x1)))) + (V 394 (Int.toNat (w32 (x5 + 1)))))) ∧ (w32 ((w32 (101 + (w32 (10 * x1)))) + (V 394 (Int.toNat (w32 (x5 + 1)))))) < (4532 : Nat)) ∧ (((V 381 (Int.toNat (w32 ((w32 (101 + (w32 (10 * x1)))) + (V 394 (Int.toNat (w32 (x5 + 1)))))))) < (V 381 (Int.toNat (w32 ((w32 (101 + (w32 (10 * x1)))) + (V 394 (Int.toNat x5)))))) → Wf K (d + 1) mX12_knit 124 [some (vR 369), some (vI x1), some (vI x2), some (vI x3), some (vI x4), some (vI x5), none] [] V Q) ∧ (¬ ((V 381 (Int.toNat (w32 ((w32 (101 + (w32 (10 * x1)))) + (V 394 (Int.toNat (w32 (x5 + 1)))))))) < (V 381 (Int.toNat (w32 ((w32 (101 + (w32 (10 * x1)))) + (V 394 (Int.toNat x5))))))) → Wf K (d + 1) mX12_knit 118 [some (vR 369), some (vI x1), some (vI x2), some (vI x3), some (vI x4), some (vI x5), none] [] V Q))))))))))))) : Wf K (d + 1) mX12_knit 62 [some (vR 369), some (vI x1), some (vI x2), some (vI x3), some (vI x4), some (vI x5), none] [] V Q := by
  refine wp_iload dX12_knit_62 rfl ?_
  refine wp_iconst dX12_knit_64 (by decide) ?_
  refine wp_iadd dX12_knit_65 ?_
  refine wp_iload_n dX12_knit_66 rfl rfl ?_
  refine wp_icmp_ge (tgt := 124) dX12_knit_67 rfl (fun c1 => ?_) (fun c1 => ?_)
  ·
    exact (h.1 c1)
  ·
    refine wp_aload_n dX12_knit_70 rfl rfl ?_
    refine wp_getR (b := 394) dX12_knit_71 fX12_133 rfl sh369 (by decide) rfl ?_
    refine wp_iload dX12_knit_74 rfl ?_
    refine wp_iald dX12_knit_76 sh394 (h.2 c1).1 ?_
    refine wp_aload_n dX12_knit_77 rfl rfl ?_
    refine wp_getR (b := 394) dX12_knit_78 fX12_133 rfl sh369 (by decide) rfl ?_
    refine wp_iload dX12_knit_81 rfl ?_
    refine wp_iconst dX12_knit_83 (by decide) ?_
    refine wp_iadd dX12_knit_84 ?_
    refine wp_iald dX12_knit_85 sh394 (h.2 c1).2.1 ?_
    refine wp_icmp_ge (tgt := 118) dX12_knit_86 rfl (fun c2 => ?_) (fun c2 => ?_)
    ·
      exact ((h.2 c1).2.2.1 c2)
    ·
      refine wp_aload_n dX12_knit_89 rfl rfl ?_
      refine wp_iload_n dX12_knit_90 rfl rfl ?_
      refine wp_aload_n dX12_knit_91 rfl rfl ?_
      refine wp_getR (b := 394) dX12_knit_92 fX12_133 rfl sh369 (by decide) rfl ?_
      refine wp_iload dX12_knit_95 rfl ?_
      refine wp_iald dX12_knit_97 sh394 ((h.2 c1).2.2.2 c2).1 ?_
      refine wp_inlV (d' := d) (S := []) (as := [vI x1, vI (V 394 (Int.toNat x5))]) dX12_knit_98 lX12_378 (by omega) sh369 rfl rfl (Nat.le_of_ble_eq_true rfl) ⟨Nat.le_refl _, Nat.le_refl _⟩ (Mt.of2 (L := [some (vR 369), some (vI x1), some (vI (V 394 (Int.toNat x5)))]) pnX12 rfl rfl ?_)
      refine wp_aload_n dX12_endOf_0 rfl rfl ?_
      refine wp_getR (b := 381) dX12_endOf_1 fX12_93 rfl sh369 (by decide) rfl ?_
      refine wp_bipush dX12_endOf_4 (by decide) ?_
      refine wp_bipush dX12_endOf_6 (by decide) ?_
      refine wp_iload_n dX12_endOf_8 rfl rfl ?_
      refine wp_imul dX12_endOf_9 ?_
      refine wp_iadd dX12_endOf_10 ?_
      refine wp_iload_n dX12_endOf_11 rfl rfl ?_
      refine wp_iadd dX12_endOf_12 ?_
      refine wp_iald dX12_endOf_13 sh381 ((h.2 c1).2.2.2 c2).2.1 ?_
      refine wp_ireturn dX12_endOf_14 rfl ⟨rfl, rfl⟩ ?_
      show Wp _ _ _ _ _ 101 _ [vI (V 381 (Int.toNat (w32 ((w32 (101 + (w32 (10 * x1)))) + (V 394 (Int.toNat x5))))))] _ _ _ _ _
      refine wp_aload_n dX12_knit_101 rfl rfl ?_
      refine wp_iload_n dX12_knit_102 rfl rfl ?_
      refine wp_aload_n dX12_knit_103 rfl rfl ?_
      refine wp_getR (b := 394) dX12_knit_104 fX12_133 rfl sh369 (by decide) rfl ?_
      refine wp_iload dX12_knit_107 rfl ?_
      refine wp_iconst dX12_knit_109 (by decide) ?_
      refine wp_iadd dX12_knit_110 ?_
      refine wp_iald dX12_knit_111 sh394 ((h.2 c1).2.2.2 c2).2.2.1 ?_
      refine wp_inlV (d' := d) (S := [vI (V 381 (Int.toNat (w32 ((w32 (101 + (w32 (10 * x1)))) + (V 394 (Int.toNat x5))))))]) (as := [vI x1, vI (V 394 (Int.toNat (w32 (x5 + 1))))]) dX12_knit_112 lX12_378 (by omega) sh369 rfl rfl (Nat.le_of_ble_eq_true rfl) ⟨Nat.le_refl _, Nat.le_refl _⟩ (Mt.of2 (L := [some (vR 369), some (vI x1), some (vI (V 394 (Int.toNat (w32 (x5 + 1)))))]) pnX12 rfl rfl ?_)
      refine wp_aload_n dX12_endOf_0 rfl rfl ?_
      refine wp_getR (b := 381) dX12_endOf_1 fX12_93 rfl sh369 (by decide) rfl ?_
      refine wp_bipush dX12_endOf_4 (by decide) ?_
      refine wp_bipush dX12_endOf_6 (by decide) ?_
      refine wp_iload_n dX12_endOf_8 rfl rfl ?_
      refine wp_imul dX12_endOf_9 ?_
      refine wp_iadd dX12_endOf_10 ?_
      refine wp_iload_n dX12_endOf_11 rfl rfl ?_
      refine wp_iadd dX12_endOf_12 ?_
      refine wp_iald dX12_endOf_13 sh381 ((h.2 c1).2.2.2 c2).2.2.2.1 ?_
      refine wp_ireturn dX12_endOf_14 rfl ⟨rfl, rfl⟩ ?_
      show Wp _ _ _ _ _ 115 _ [vI (V 381 (Int.toNat (w32 ((w32 (101 + (w32 (10 * x1)))) + (V 394 (Int.toNat (w32 (x5 + 1)))))))), vI (V 381 (Int.toNat (w32 ((w32 (101 + (w32 (10 * x1)))) + (V 394 (Int.toNat x5))))))] _ _ _ _ _
      refine wp_icmp_gt (tgt := 124) dX12_knit_115 rfl (fun c3 => ?_) (fun c3 => ?_)
      ·
        exact (((h.2 c1).2.2.2 c2).2.2.2.2.1 c3)
      ·
        exact (((h.2 c1).2.2.2 c2).2.2.2.2.2 c3)
set_option maxHeartbeats 4000000 in
set_option maxRecDepth 10000 in
theorem sX12_knit_124 {K : KK} {d : Nat} {V : Mem} {Q : Option AV → Mem → Prop} (x1 : Int) (x2 : Int) (x3 : Int) (x4 : Int) (x5 : Int) (h : (((w32 (x5 + 1)) < x3 → ((¬ x4 = x2 → (((0 : Int) ≤ x5 ∧ x5 < (10 : Nat)) ∧ (((0 : Int) ≤ (w32 (x5 + 1)) ∧ (w32 (x5 + 1)) < (10 : Nat)) ∧ (((0 : Int) ≤ x5 ∧ x5 < (10 : Nat)) ∧ (((0 : Int) ≤ (w32 (x5 + 1)) ∧ (w32 (x5 + 1)) < (10 : Nat)) ∧ Wf K (d + 1) mX12_knit 52 [some (vR 369), some (vI x1), some (vI x2), some (vI x3), some (vI (w32 (x4 + 1))), none, none] [] (upm (upm V 394 (Int.toNat x5) (V 394 (Int.toNat (w32 (x5 + 1))))) 394 (Int.toNat (w32 (x5 + 1))) (V 394 (Int.toNat x5))) Q))))) ∧ (x4 = x2 → Q (some (vI x5)) V))) ∧ (¬ ((w32 (x5 + 1)) < x3) → Q (some (vI (-1))) V))) : Wf K (d + 1) mX12_knit 124 [some (vR 369), some (vI x1), some (vI x2), some (vI x3), some (vI x4), some (vI x5), none] [] V Q := by
  refine wp_iload dX12_knit_124 rfl ?_
  refine wp_iconst dX12_knit_126 (by decide) ?_
  refine wp_iadd dX12_knit_127 ?_
  refine wp_iload_n dX12_knit_128 rfl rfl ?_
  refine wp_icmp_lt (tgt := 134) dX12_knit_129 rfl (fun c1 => ?_) (fun c1 => ?_)
  ·
    refine wp_iload dX12_knit_134 rfl ?_
    refine wp_iload_n dX12_knit_136 rfl rfl ?_
    refine wp_icmp_ne (tgt := 143) dX12_knit_137 rfl (fun c2 => ?_) (fun c2 => ?_)
    ·
      refine wp_aload_n dX12_knit_143 rfl rfl ?_
      refine wp_getR (b := 394) dX12_knit_144 fX12_133 rfl sh369 (by decide) rfl ?_
      refine wp_iload dX12_knit_147 rfl ?_
      refine wp_iald dX12_knit_149 sh394 ((h.1 c1).1 c2).1 ?_
      refine wp_istore dX12_knit_150 (by decide) rfl ?_
      refine wp_aload_n dX12_knit_152 rfl rfl ?_
      refine wp_getR (b := 394) dX12_knit_153 fX12_133 rfl sh369 (by decide) rfl ?_
      refine wp_iload dX12_knit_156 rfl ?_
      refine wp_aload_n dX12_knit_158 rfl rfl ?_
      refine wp_getR (b := 394) dX12_knit_159 fX12_133 rfl sh369 (by decide) rfl ?_
      refine wp_iload dX12_knit_162 rfl ?_
      refine wp_iconst dX12_knit_164 (by decide) ?_
      refine wp_iadd dX12_knit_165 ?_
      refine wp_iald dX12_knit_166 sh394 ((h.1 c1).1 c2).2.1 ?_
      refine wp_iast dX12_knit_167 sh394 ((h.1 c1).1 c2).2.2.1 ?_
      refine wp_aload_n dX12_knit_168 rfl rfl ?_
      refine wp_getR (b := 394) dX12_knit_169 fX12_133 rfl sh369 (by decide) rfl ?_
      refine wp_iload dX12_knit_172 rfl ?_
      refine wp_iconst dX12_knit_174 (by decide) ?_
      refine wp_iadd dX12_knit_175 ?_
      refine wp_iload dX12_knit_176 rfl ?_
      refine wp_iast dX12_knit_178 sh394 ((h.1 c1).1 c2).2.2.2.1 ?_
      refine wp_iinc dX12_knit_179 rfl rfl ?_
      refine wp_goto (tgt := 52) dX12_knit_182 rfl ?_
      exact wp_loc (L2 := [some (vR 369), some (vI x1), some (vI x2), some (vI x3), some (vI (w32 (x4 + 1))), none, none]) ⟨rfl, ⟨rfl, ⟨rfl, ⟨rfl, ⟨rfl, trivial⟩⟩⟩⟩⟩ ((h.1 c1).1 c2).2.2.2.2
    ·
      refine wp_iload dX12_knit_140 rfl ?_
      exact wp_ireturn dX12_knit_142 rfl ⟨rfl, rfl⟩ ⟨rfl, ((h.1 c1).2 c2)⟩
  ·
    refine wp_iconst dX12_knit_132 (by decide) ?_
    exact wp_ireturn dX12_knit_133 rfl ⟨rfl, rfl⟩ ⟨rfl, (h.2 c1)⟩
set_option maxHeartbeats 4000000 in
set_option maxRecDepth 10000 in
theorem sX12_knit_118 {K : KK} {d : Nat} {V : Mem} {Q : Option AV → Mem → Prop} (x1 : Int) (x2 : Int) (x3 : Int) (x4 : Int) (x5 : Int) (h : Wf K (d + 1) mX12_knit 62 [some (vR 369), some (vI x1), some (vI x2), some (vI x3), some (vI x4), some (vI (w32 (x5 + 1))), none] [] V Q) : Wf K (d + 1) mX12_knit 118 [some (vR 369), some (vI x1), some (vI x2), some (vI x3), some (vI x4), some (vI x5), none] [] V Q := by
  refine wp_iinc dX12_knit_118 rfl rfl ?_
  refine wp_goto (tgt := 62) dX12_knit_121 rfl ?_
  exact h
set_option maxHeartbeats 4000000 in
set_option maxRecDepth 10000 in
theorem sX12_below {K : KK} {d : Nat} {V : Mem} {Q : Option AV → Mem → Prop} (x1 : Int) (x2 : Int) (h : Mf K d mX12_isBraid [vR 369, vI x1] (upm V 369 0 0) (fun r V1 => ∃ z1, r = some (vI z1) ∧ ((z1 = 0 → Q (some (vI 0)) V1) ∧ (¬ (z1 = 0) → Mf K d mX12_isBraid [vR 369, vI x2] V1 (fun r V3 => ∃ z3, r = some (vI z3) ∧ ((z3 = 0 → Q (some (vI 0)) V3) ∧ (¬ (z3 = 0) → (((0 : Int) ≤ (w32 ((w32 (0 + 85)) + x1)) ∧ (w32 ((w32 (0 + 85)) + x1)) < (4532 : Nat)) ∧ (((0 : Int) ≤ (w32 ((w32 (0 + 85)) + x2)) ∧ (w32 ((w32 (0 + 85)) + x2)) < (4532 : Nat)) ∧ ((¬ (V3 381 (Int.toNat (w32 ((w32 (0 + 85)) + x1)))) = (V3 381 (Int.toNat (w32 ((w32 (0 + 85)) + x2)))) → Q (some (vI 0)) V3) ∧ ((V3 381 (Int.toNat (w32 ((w32 (0 + 85)) + x1)))) = (V3 381 (Int.toNat (w32 ((w32 (0 + 85)) + x2)))) → (((0 : Int) ≤ (w32 (85 + x1)) ∧ (w32 (85 + x1)) < (4532 : Nat)) ∧ Mf K d mX12_laysBraid [vR 369, vI 0, vI x1, vR 394] V3 (fun r V8 => r = none ∧ Mf K d mX12_laysBraid [vR 369, vI 0, vI x2, vR 395] V8 (fun r V9 => r = none ∧ Wf K (d + 1) mX12_below 65 [some (vR 369), none, none, some (vI (V3 381 (Int.toNat (w32 (85 + x1))))), some (vI 1), some (vI 0), none] [] V9 Q)))))))))))))) : Mf K (d + 1) mX12_below [vR 369, vI x1, vI x2] V Q := by
  refine Mt.of2 (L := [some (vR 369), some (vI x1), some (vI x2), none, none, none, none]) pnX12 rfl rfl ?_
  refine wp_aload_n dX12_below_0 rfl rfl ?_
  refine wp_iconst dX12_below_1 (by decide) ?_
  refine wp_putI dX12_below_2 fwX12_1 rfl sh369 (by decide) ?_
  refine wp_aload_n dX12_below_5 rfl rfl ?_
  refine wp_iload_n dX12_below_6 rfl rfl ?_
  refine wp_callV (S := []) (as := [vI x1]) dX12_below_7 lX12_381 (h) (by omega) sh369 rfl rfl (Nat.le_of_ble_eq_true rfl) ⟨Nat.le_refl _, Nat.le_refl _⟩ ?_
  rintro _ _ V1 ⟨rfl, z1, rfl, q1⟩
  show Wp _ _ _ _ _ 10 _ [vI z1] _ _ _ _ _
  refine wp_if_eq (tgt := 31) dX12_below_10 rfl (fun c2 => ?_) (fun c2 => ?_)
  ·
    refine wp_iconst dX12_below_31 (by decide) ?_
    exact wp_zreturn dX12_below_32 rfl ⟨rfl, rfl⟩ (by decide) ⟨rfl, (q1.1 c2)⟩
  ·
    refine wp_aload_n dX12_below_13 rfl rfl ?_
    refine wp_iload_n dX12_below_14 rfl rfl ?_
    refine wp_callV (S := []) (as := [vI x2]) dX12_below_15 lX12_381 ((q1.2 c2)) (by omega) sh369 rfl rfl (Nat.le_of_ble_eq_true rfl) ⟨Nat.le_refl _, Nat.le_refl _⟩ ?_
    rintro _ _ V3 ⟨rfl, z3, rfl, q3⟩
    show Wp _ _ _ _ _ 18 _ [vI z3] _ _ _ _ _
    refine wp_if_eq (tgt := 31) dX12_below_18 rfl (fun c4 => ?_) (fun c4 => ?_)
    ·
      refine wp_iconst dX12_below_31 (by decide) ?_
      exact wp_zreturn dX12_below_32 rfl ⟨rfl, rfl⟩ (by decide) ⟨rfl, (q3.1 c4)⟩
    ·
      refine wp_aload_n dX12_below_21 rfl rfl ?_
      refine wp_iconst dX12_below_22 (by decide) ?_
      refine wp_iload_n dX12_below_23 rfl rfl ?_
      refine wp_iload_n dX12_below_24 rfl rfl ?_
      refine wp_inlV (d' := d) (S := []) (as := [vI 0, vI x1, vI x2]) dX12_below_25 lX12_391 (by omega) sh369 rfl rfl (Nat.le_of_ble_eq_true rfl) ⟨Nat.le_refl _, Nat.le_refl _⟩ (Mt.of2 (L := [some (vR 369), some (vI 0), some (vI x1), some (vI x2)]) pnX12 rfl rfl ?_)
      refine wp_aload_n dX12_areAlike_0 rfl rfl ?_
      refine wp_getR (b := 381) dX12_areAlike_1 fX12_93 rfl sh369 (by decide) rfl ?_
      refine wp_iload_n dX12_areAlike_4 rfl rfl ?_
      refine wp_bipush dX12_areAlike_5 (by decide) ?_
      refine wp_iadd dX12_areAlike_7 ?_
      refine wp_iload_n dX12_areAlike_8 rfl rfl ?_
      refine wp_iadd dX12_areAlike_9 ?_
      refine wp_iald dX12_areAlike_10 sh381 (q3.2 c4).1 ?_
      refine wp_aload_n dX12_areAlike_11 rfl rfl ?_
      refine wp_getR (b := 381) dX12_areAlike_12 fX12_93 rfl sh369 (by decide) rfl ?_
      refine wp_iload_n dX12_areAlike_15 rfl rfl ?_
      refine wp_bipush dX12_areAlike_16 (by decide) ?_
      refine wp_iadd dX12_areAlike_18 ?_
      refine wp_iload_n dX12_areAlike_19 rfl rfl ?_
      refine wp_iadd dX12_areAlike_20 ?_
      refine wp_iald dX12_areAlike_21 sh381 (q3.2 c4).2.1 ?_
      refine wp_icmp_ne (tgt := 29) dX12_areAlike_22 rfl (fun c5 => ?_) (fun c5 => ?_)
      ·
        refine wp_iconst dX12_areAlike_29 (by decide) ?_
        refine wp_zreturn dX12_areAlike_30 rfl ⟨rfl, rfl⟩ (by decide) ?_
        show Wp _ _ _ _ _ 28 _ [vI 0] _ _ _ _ _
        refine wp_if_ne (tgt := 33) dX12_below_28 rfl (fun c6 => False.elim (by revert c6; decide)) (fun c6 => ?_)
        refine wp_iconst dX12_below_31 (by decide) ?_
        exact wp_zreturn dX12_below_32 rfl ⟨rfl, rfl⟩ (by decide) ⟨rfl, ((q3.2 c4).2.2.1 c5)⟩
      ·
        refine wp_iconst dX12_areAlike_25 (by decide) ?_
        refine wp_goto (tgt := 30) dX12_areAlike_26 rfl ?_
        refine wp_zreturn dX12_areAlike_30 rfl ⟨rfl, rfl⟩ (by decide) ?_
        show Wp _ _ _ _ _ 28 _ [vI 1] _ _ _ _ _
        refine wp_if_ne (tgt := 33) dX12_below_28 rfl (fun c7 => ?_) (fun c7 => False.elim (by revert c7; decide))
        refine wp_aload_n dX12_below_33 rfl rfl ?_
        refine wp_iload_n dX12_below_34 rfl rfl ?_
        refine wp_inlV (d' := d) (S := []) (as := [vI x1]) dX12_below_35 lX12_375 (by omega) sh369 rfl rfl (Nat.le_of_ble_eq_true rfl) ⟨Nat.le_refl _, Nat.le_refl _⟩ (Mt.of2 (L := [some (vR 369), some (vI x1)]) pnX12 rfl rfl ?_)
        refine wp_aload_n dX12_strandsOf_0 rfl rfl ?_
        refine wp_getR (b := 381) dX12_strandsOf_1 fX12_93 rfl sh369 (by decide) rfl ?_
        refine wp_bipush dX12_strandsOf_4 (by decide) ?_
        refine wp_iload_n dX12_strandsOf_6 rfl rfl ?_
        refine wp_iadd dX12_strandsOf_7 ?_
        refine wp_iald dX12_strandsOf_8 sh381 ((q3.2 c4).2.2.2 c5).1 ?_
        refine wp_ireturn dX12_strandsOf_9 rfl ⟨rfl, rfl⟩ ?_
        show Wp _ _ _ _ _ 38 _ [vI (V3 381 (Int.toNat (w32 (85 + x1))))] _ _ _ _ _
        refine wp_istore_n dX12_below_38 rfl (by decide) rfl ?_
        refine wp_aload_n dX12_below_39 rfl rfl ?_
        refine wp_iconst dX12_below_40 (by decide) ?_
        refine wp_iload_n dX12_below_41 rfl rfl ?_
        refine wp_aload_n dX12_below_42 rfl rfl ?_
        refine wp_getR (b := 394) dX12_below_43 fX12_133 rfl sh369 (by decide) rfl ?_
        refine wp_callV (S := []) (as := [vI 0, vI x1, vR 394]) dX12_below_46 lX12_387 (((q3.2 c4).2.2.2 c5).2) (by omega) sh369 rfl rfl (Nat.le_of_ble_eq_true rfl) ⟨Nat.le_refl _, Nat.le_refl _⟩ ?_
        rintro _ _ V8 ⟨rfl, rfl, q8⟩
        show Wp _ _ _ _ _ 49 _ [] _ _ _ _ _
        refine wp_aload_n dX12_below_49 rfl rfl ?_
        refine wp_iconst dX12_below_50 (by decide) ?_
        refine wp_iload_n dX12_below_51 rfl rfl ?_
        refine wp_aload_n dX12_below_52 rfl rfl ?_
        refine wp_getR (b := 395) dX12_below_53 fX12_136 rfl sh369 (by decide) rfl ?_
        refine wp_callV (S := []) (as := [vI 0, vI x2, vR 395]) dX12_below_56 lX12_387 (q8) (by omega) sh369 rfl rfl (Nat.le_of_ble_eq_true rfl) ⟨Nat.le_refl _, Nat.le_refl _⟩ ?_
        rintro _ _ V9 ⟨rfl, rfl, q9⟩
        show Wp _ _ _ _ _ 59 _ [] _ _ _ _ _
        refine wp_iconst dX12_below_59 (by decide) ?_
        refine wp_istore dX12_below_60 (by decide) rfl ?_
        refine wp_iconst dX12_below_62 (by decide) ?_
        refine wp_istore dX12_below_63 (by decide) rfl ?_
        exact wp_loc (L2 := [some (vR 369), none, none, some (vI (V3 381 (Int.toNat (w32 (85 + x1))))), some (vI 1), some (vI 0), none]) ⟨rfl, ⟨rfl, ⟨rfl, ⟨rfl, trivial⟩⟩⟩⟩ q9
set_option maxHeartbeats 4000000 in
set_option maxRecDepth 10000 in
theorem sX12_below_65 {K : KK} {d : Nat} {V : Mem} {Q : Option AV → Mem → Prop} (x3 : Int) (x4 : Int) (x5 : Int) (h : ((x3 < x5 → ((x4 = 0 ∨ x4 = 1) ∧ Q (some (vI x4)) V)) ∧ (¬ (x3 < x5) → Wf K (d + 1) mX12_below 74 [some (vR 369), none, none, some (vI x3), some (vI x4), some (vI x5), some (vI 0)] [] V Q))) : Wf K (d + 1) mX12_below 65 [some (vR 369), none, none, some (vI x3), some (vI x4), some (vI x5), none] [] V Q := by
  refine wp_iload dX12_below_65 rfl ?_
  refine wp_iload_n dX12_below_67 rfl rfl ?_
  refine wp_icmp_gt (tgt := 131) dX12_below_68 rfl (fun c1 => ?_) (fun c1 => ?_)
  ·
    refine wp_iload dX12_below_131 rfl ?_
    exact wp_zreturn dX12_below_133 rfl ⟨rfl, rfl⟩ (h.1 c1).1 ⟨rfl, (h.1 c1).2⟩
  ·
    refine wp_iconst dX12_below_71 (by decide) ?_
    refine wp_istore dX12_below_72 (by decide) rfl ?_
    exact (h.2 c1)
set_option maxHeartbeats 4000000 in
set_option maxRecDepth 10000 in
theorem sX12_below_74 {K : KK} {d : Nat} {V : Mem} {Q : Option AV → Mem → Prop} (x3 : Int) (x4 : Int) (x5 : Int) (x6 : Int) (h : ((x3 < x6 → Wf K (d + 1) mX12_below 65 [some (vR 369), none, none, some (vI x3), some (vI x4), some (vI (w32 (x5 + 1))), none] [] V Q) ∧ (¬ (x3 < x6) → ((x4 = 0 → Wf K (d + 1) mX12_below 74 [some (vR 369), none, none, some (vI x3), some (vI 0), some (vI x5), some (vI (w32 (x6 + 1)))] [] V Q) ∧ (¬ (x4 = 0) → Mf K d mX12_countOf [vR 394, vI x3, vI x5, vI x6] V (fun r V3 => ∃ z3, r = some (vI z3) ∧ Mf K d mX12_countOf [vR 395, vI x3, vI x5, vI x6] V3 (fun r V4 => ∃ z4, r = some (vI z4) ∧ ((z4 < z3 → Wf K (d + 1) mX12_below 74 [some (vR 369), none, none, some (vI x3), some (vI 0), some (vI x5), some (vI (w32 (x6 + 1)))] [] V4 Q) ∧ (¬ (z4 < z3) → Wf K (d + 1) mX12_below 74 [some (vR 369), none, none, some (vI x3), some (vI 1), some (vI x5), some (vI (w32 (x6 + 1)))] [] V4 Q))))))))) : Wf K (d + 1) mX12_below 74 [some (vR 369), none, none, some (vI x3), some (vI x4), some (vI x5), some (vI x6)] [] V Q := by
  refine wp_iload dX12_below_74 rfl ?_
  refine wp_iload_n dX12_below_76 rfl rfl ?_
  refine wp_icmp_gt (tgt := 125) dX12_below_77 rfl (fun c1 => ?_) (fun c1 => ?_)
  ·
    refine wp_iinc dX12_below_125 rfl rfl ?_
    refine wp_goto (tgt := 65) dX12_below_128 rfl ?_
    exact wp_loc (L2 := [some (vR 369), none, none, some (vI x3), some (vI x4), some (vI (w32 (x5 + 1))), none]) ⟨rfl, ⟨rfl, ⟨rfl, ⟨rfl, trivial⟩⟩⟩⟩ (h.1 c1)
  ·
    refine wp_iload dX12_below_80 rfl ?_
    refine wp_if_eq (tgt := 116) dX12_below_82 rfl (fun c2 => ?_) (fun c2 => ?_)
    ·
      refine wp_iconst dX12_below_116 (by decide) ?_
      refine wp_istore dX12_below_117 (by decide) rfl ?_
      refine wp_iinc dX12_below_119 rfl rfl ?_
      refine wp_goto (tgt := 74) dX12_below_122 rfl ?_
      exact ((h.2 c1).1 c2)
    ·
      refine wp_aload_n dX12_below_85 rfl rfl ?_
      refine wp_getR (b := 394) dX12_below_86 fX12_133 rfl sh369 (by decide) rfl ?_
      refine wp_iload_n dX12_below_89 rfl rfl ?_
      refine wp_iload dX12_below_90 rfl ?_
      refine wp_iload dX12_below_92 rfl ?_
      refine wp_callS (S := []) (as := [vR 394, vI x3, vI x5, vI x6]) dX12_below_94 lX12_367 (((h.2 c1).2 c2)) (by omega) rfl rfl (Nat.le_of_ble_eq_true rfl) ⟨Nat.le_refl _, Nat.le_refl _⟩ ?_
      rintro _ _ V3 ⟨rfl, z3, rfl, q3⟩
      show Wp _ _ _ _ _ 97 _ [vI z3] _ _ _ _ _
      refine wp_aload_n dX12_below_97 rfl rfl ?_
      refine wp_getR (b := 395) dX12_below_98 fX12_136 rfl sh369 (by decide) rfl ?_
      refine wp_iload_n dX12_below_101 rfl rfl ?_
      refine wp_iload dX12_below_102 rfl ?_
      refine wp_iload dX12_below_104 rfl ?_
      refine wp_callS (S := [vI z3]) (as := [vR 395, vI x3, vI x5, vI x6]) dX12_below_106 lX12_367 (q3) (by omega) rfl rfl (Nat.le_of_ble_eq_true rfl) ⟨Nat.le_refl _, Nat.le_refl _⟩ ?_
      rintro _ _ V4 ⟨rfl, z4, rfl, q4⟩
      show Wp _ _ _ _ _ 109 _ [vI z4, vI z3] _ _ _ _ _
      refine wp_icmp_gt (tgt := 116) dX12_below_109 rfl (fun c5 => ?_) (fun c5 => ?_)
      ·
        refine wp_iconst dX12_below_116 (by decide) ?_
        refine wp_istore dX12_below_117 (by decide) rfl ?_
        refine wp_iinc dX12_below_119 rfl rfl ?_
        refine wp_goto (tgt := 74) dX12_below_122 rfl ?_
        exact (q4.1 c5)
      ·
        refine wp_iconst dX12_below_112 (by decide) ?_
        refine wp_goto (tgt := 117) dX12_below_113 rfl ?_
        refine wp_istore dX12_below_117 (by decide) rfl ?_
        refine wp_iinc dX12_below_119 rfl rfl ?_
        refine wp_goto (tgt := 74) dX12_below_122 rfl ?_
        exact (q4.2 c5)
set_option maxHeartbeats 4000000 in
set_option maxRecDepth 10000 in
theorem sX12_row {K : KK} {d : Nat} {V : Mem} {Q : Option AV → Mem → Prop} (x1 : Int) (x2 : Int) (h : Mf K d mX12_isRow [vR 369, vI x1] (upm V 369 0 0) (fun r V1 => ∃ z1, r = some (vI z1) ∧ ((z1 = 0 → Q (some (vI (-1))) V1) ∧ (¬ (z1 = 0) → Mf K d mX12_within [vI x2, vI 0, vI 1] V1 (fun r V3 => ∃ z3, r = some (vI z3) ∧ ((z3 = 0 → Q (some (vI (-1))) V3) ∧ (¬ (z3 = 0) → ((¬ x2 = 0 → (((0 : Int) ≤ (w32 (0 + x1)) ∧ (w32 (0 + x1)) < (4532 : Nat)) ∧ Q (some (vI (V3 381 (Int.toNat (w32 (0 + x1)))))) V3)) ∧ (x2 = 0 → (((0 : Int) ≤ (w32 (3 + (w32 (22 * x1)))) ∧ (w32 (3 + (w32 (22 * x1)))) < (280 : Nat)) ∧ Q (some (vI (V3 375 (Int.toNat (w32 (3 + (w32 (22 * x1)))))))) V3)))))))))) : Mf K (d + 1) mX12_row [vR 369, vI x1, vI x2] V Q := by
  refine Mt.of2 (L := [some (vR 369), some (vI x1), some (vI x2)]) pnX12 rfl rfl ?_
  refine wp_aload_n dX12_row_0 rfl rfl ?_
  refine wp_iconst dX12_row_1 (by decide) ?_
  refine wp_putI dX12_row_2 fwX12_1 rfl sh369 (by decide) ?_
  refine wp_aload_n dX12_row_5 rfl rfl ?_
  refine wp_iload_n dX12_row_6 rfl rfl ?_
  refine wp_callV (S := []) (as := [vI x1]) dX12_row_7 lX12_289 (h) (by omega) sh369 rfl rfl (Nat.le_of_ble_eq_true rfl) ⟨Nat.le_refl _, Nat.le_refl _⟩ ?_
  rintro _ _ V1 ⟨rfl, z1, rfl, q1⟩
  show Wp _ _ _ _ _ 10 _ [vI z1] _ _ _ _ _
  refine wp_if_eq (tgt := 43) dX12_row_10 rfl (fun c2 => ?_) (fun c2 => ?_)
  ·
    refine wp_iconst dX12_row_43 (by decide) ?_
    exact wp_ireturn dX12_row_44 rfl ⟨rfl, rfl⟩ ⟨rfl, (q1.1 c2)⟩
  ·
    refine wp_iload_n dX12_row_13 rfl rfl ?_
    refine wp_iconst dX12_row_14 (by decide) ?_
    refine wp_iconst dX12_row_15 (by decide) ?_
    refine wp_callS (S := []) (as := [vI x2, vI 0, vI 1]) dX12_row_16 lX12_358 ((q1.2 c2)) (by omega) rfl rfl (Nat.le_of_ble_eq_true rfl) ⟨Nat.le_refl _, Nat.le_refl _⟩ ?_
    rintro _ _ V3 ⟨rfl, z3, rfl, q3⟩
    show Wp _ _ _ _ _ 19 _ [vI z3] _ _ _ _ _
    refine wp_if_eq (tgt := 43) dX12_row_19 rfl (fun c4 => ?_) (fun c4 => ?_)
    ·
      refine wp_iconst dX12_row_43 (by decide) ?_
      exact wp_ireturn dX12_row_44 rfl ⟨rfl, rfl⟩ ⟨rfl, (q3.1 c4)⟩
    ·
      refine wp_iload_n dX12_row_22 rfl rfl ?_
      refine wp_if_ne (tgt := 34) dX12_row_23 rfl (fun c5 => ?_) (fun c5 => ?_)
      ·
        refine wp_aload_n dX12_row_34 rfl rfl ?_
        refine wp_iconst dX12_row_35 (by decide) ?_
        refine wp_iload_n dX12_row_36 rfl rfl ?_
        refine wp_inlV (d' := d) (S := []) (as := [vI 0, vI x1]) dX12_row_37 lX12_292 (by omega) sh369 rfl rfl (Nat.le_of_ble_eq_true rfl) ⟨Nat.le_refl _, Nat.le_refl _⟩ (Mt.of2 (L := [some (vR 369), some (vI 0), some (vI x1)]) pnX12 rfl rfl ?_)
        refine wp_aload_n dX12_manyOf_0 rfl rfl ?_
        refine wp_getR (b := 381) dX12_manyOf_1 fX12_93 rfl sh369 (by decide) rfl ?_
        refine wp_iload_n dX12_manyOf_4 rfl rfl ?_
        refine wp_iload_n dX12_manyOf_5 rfl rfl ?_
        refine wp_iadd dX12_manyOf_6 ?_
        refine wp_iald dX12_manyOf_7 sh381 ((q3.2 c4).1 c5).1 ?_
        refine wp_ireturn dX12_manyOf_8 rfl ⟨rfl, rfl⟩ ?_
        show Wp _ _ _ _ _ 40 _ [vI (V3 381 (Int.toNat (w32 (0 + x1))))] _ _ _ _ _
        refine wp_goto (tgt := 44) dX12_row_40 rfl ?_
        exact wp_ireturn dX12_row_44 rfl ⟨rfl, rfl⟩ ⟨rfl, ((q3.2 c4).1 c5).2⟩
      ·
        refine wp_aload_n dX12_row_26 rfl rfl ?_
        refine wp_iload_n dX12_row_27 rfl rfl ?_
        refine wp_inlV (d' := d) (S := []) (as := [vI x1]) dX12_row_28 lX12_298 (by omega) sh369 rfl rfl (Nat.le_of_ble_eq_true rfl) ⟨Nat.le_refl _, Nat.le_refl _⟩ (Mt.of2 (L := [some (vR 369), some (vI x1)]) pnX12 rfl rfl ?_)
        refine wp_aload_n dX12_kindOf_0 rfl rfl ?_
        refine wp_getR (b := 375) dX12_kindOf_1 fX12_75 rfl sh369 (by decide) rfl ?_
        refine wp_iconst dX12_kindOf_4 (by decide) ?_
        refine wp_bipush dX12_kindOf_5 (by decide) ?_
        refine wp_iload_n dX12_kindOf_7 rfl rfl ?_
        refine wp_imul dX12_kindOf_8 ?_
        refine wp_iadd dX12_kindOf_9 ?_
        refine wp_iald dX12_kindOf_10 sh375 ((q3.2 c4).2 c5).1 ?_
        refine wp_ireturn dX12_kindOf_11 rfl ⟨rfl, rfl⟩ ?_
        show Wp _ _ _ _ _ 31 _ [vI (V3 375 (Int.toNat (w32 (3 + (w32 (22 * x1))))))] _ _ _ _ _
        refine wp_goto (tgt := 44) dX12_row_31 rfl ?_
        exact wp_ireturn dX12_row_44 rfl ⟨rfl, rfl⟩ ⟨rfl, ((q3.2 c4).2 c5).2⟩
set_option maxHeartbeats 4000000 in
set_option maxRecDepth 10000 in
theorem sX12_item {K : KK} {d : Nat} {V : Mem} {Q : Option AV → Mem → Prop} (x1 : Int) (x2 : Int) (h : Mf K d mX12_isPlace [vR 369, vI x1, vI x2] (upm V 369 0 0) (fun r V1 => ∃ z1, r = some (vI z1) ∧ ((z1 = 0 → Q (some (vI (-1))) V1) ∧ (¬ (z1 = 0) → (((0 : Int) ≤ (w32 ((w32 ((w32 (0 + 4)) + (w32 (20 * x1)))) + x2)) ∧ (w32 ((w32 ((w32 (0 + 4)) + (w32 (20 * x1)))) + x2)) < (4532 : Nat)) ∧ Q (some (vI (V1 381 (Int.toNat (w32 ((w32 ((w32 (0 + 4)) + (w32 (20 * x1)))) + x2)))))) V1))))) : Mf K (d + 1) mX12_item [vR 369, vI x1, vI x2] V Q := by
  refine Mt.of2 (L := [some (vR 369), some (vI x1), some (vI x2)]) pnX12 rfl rfl ?_
  refine wp_aload_n dX12_item_0 rfl rfl ?_
  refine wp_iconst dX12_item_1 (by decide) ?_
  refine wp_putI dX12_item_2 fwX12_1 rfl sh369 (by decide) ?_
  refine wp_aload_n dX12_item_5 rfl rfl ?_
  refine wp_iload_n dX12_item_6 rfl rfl ?_
  refine wp_iload_n dX12_item_7 rfl rfl ?_
  refine wp_callV (S := []) (as := [vI x1, vI x2]) dX12_item_8 lX12_352 (h) (by omega) sh369 rfl rfl (Nat.le_of_ble_eq_true rfl) ⟨Nat.le_refl _, Nat.le_refl _⟩ ?_
  rintro _ _ V1 ⟨rfl, z1, rfl, q1⟩
  show Wp _ _ _ _ _ 11 _ [vI z1] _ _ _ _ _
  refine wp_if_eq (tgt := 28) dX12_item_11 rfl (fun c2 => ?_) (fun c2 => ?_)
  ·
    refine wp_iconst dX12_item_28 (by decide) ?_
    exact wp_ireturn dX12_item_29 rfl ⟨rfl, rfl⟩ ⟨rfl, (q1.1 c2)⟩
  ·
    refine wp_aload_n dX12_item_14 rfl rfl ?_
    refine wp_getR (b := 381) dX12_item_15 fX12_93 rfl sh369 (by decide) rfl ?_
    refine wp_iconst dX12_item_18 (by decide) ?_
    refine wp_iload_n dX12_item_19 rfl rfl ?_
    refine wp_iload_n dX12_item_20 rfl rfl ?_
    refine wp_inlS (d' := d) (S := [vR 381]) (as := [vI 0, vI x1, vI x2]) dX12_item_21 lX12_307 (by omega) rfl rfl (Nat.le_of_ble_eq_true rfl) ⟨Nat.le_refl _, Nat.le_refl _⟩ (Mt.of2 (L := [some (vI 0), some (vI x1), some (vI x2)]) pnX12 rfl rfl ?_)
    refine wp_iload_n dX12_numberAt_0 rfl rfl ?_
    refine wp_iconst dX12_numberAt_1 (by decide) ?_
    refine wp_iadd dX12_numberAt_2 ?_
    refine wp_bipush dX12_numberAt_3 (by decide) ?_
    refine wp_iload_n dX12_numberAt_5 rfl rfl ?_
    refine wp_imul dX12_numberAt_6 ?_
    refine wp_iadd dX12_numberAt_7 ?_
    refine wp_iload_n dX12_numberAt_8 rfl rfl ?_
    refine wp_iadd dX12_numberAt_9 ?_
    refine wp_ireturn dX12_numberAt_10 rfl ⟨rfl, rfl⟩ ?_
    show Wp _ _ _ _ _ 24 _ [vI (w32 ((w32 ((w32 (0 + 4)) + (w32 (20 * x1)))) + x2)), vR 381] _ _ _ _ _
    refine wp_iald dX12_item_24 sh381 (q1.2 c2).1 ?_
    refine wp_goto (tgt := 29) dX12_item_25 rfl ?_
    exact wp_ireturn dX12_item_29 rfl ⟨rfl, rfl⟩ ⟨rfl, (q1.2 c2).2⟩
set_option maxHeartbeats 4000000 in
set_option maxRecDepth 10000 in
theorem sX12_weight {K : KK} {d : Nat} {V : Mem} {Q : Option AV → Mem → Prop} (x1 : Int) (x2 : Int) (h : Mf K (d + 1) mX12_isPlace [vR 369, vI x1, vI x2] V (fun r V1 => ∃ z1, r = some (vI z1) ∧ ((z1 = 0 → Wf K (d + 2) mX12_weight 15 [some (vR 369), some (vI x1), some (vI x2)] [vI 1, vR 369] V1 Q) ∧ (¬ (z1 = 0) → Wf K (d + 2) mX12_weight 15 [some (vR 369), some (vI x1), some (vI x2)] [vI 0, vR 369] V1 Q)))) : Mf K (d + 2) mX12_weight [vR 369, vI x1, vI x2] V Q := by
  refine Mt.of2 (L := [some (vR 369), some (vI x1), some (vI x2)]) pnX12 rfl rfl ?_
  refine wp_aload_n dX12_weight_0 rfl rfl ?_
  refine wp_aload_n dX12_weight_1 rfl rfl ?_
  refine wp_iload_n dX12_weight_2 rfl rfl ?_
  refine wp_iload_n dX12_weight_3 rfl rfl ?_
  refine wp_callV (S := [vR 369]) (as := [vI x1, vI x2]) dX12_weight_4 lX12_352 (h) (by omega) sh369 rfl rfl (Nat.le_of_ble_eq_true rfl) ⟨Nat.le_refl _, Nat.le_refl _⟩ ?_
  rintro _ _ V1 ⟨rfl, z1, rfl, q1⟩
  show Wp _ _ _ _ _ 7 _ [vI z1, vR 369] _ _ _ _ _
  refine wp_if_eq (tgt := 14) dX12_weight_7 rfl (fun c2 => ?_) (fun c2 => ?_)
  ·
    refine wp_iconst dX12_weight_14 (by decide) ?_
    exact (q1.1 c2)
  ·
    refine wp_iconst dX12_weight_10 (by decide) ?_
    refine wp_goto (tgt := 15) dX12_weight_11 rfl ?_
    exact (q1.2 c2)
set_option maxHeartbeats 4000000 in
set_option maxRecDepth 10000 in
theorem sX12_weight_15 {K : KK} {d : Nat} {V : Mem} {Q : Option AV → Mem → Prop} (x1 : Int) (x2 : Int) (s1 : Int) (h : ((((upm V 369 0 s1) 369 0) ≤ 0 → (((0 : Int) ≤ (w32 ((w32 ((w32 (0 + 4)) + (w32 (20 * x1)))) + x2)) ∧ (w32 ((w32 ((w32 (0 + 4)) + (w32 (20 * x1)))) + x2)) < (4532 : Nat)) ∧ (((0 : Int) ≤ (w32 (0 + x1)) ∧ (w32 (0 + x1)) < (4532 : Nat)) ∧ (((0 : Int) ≤ (w32 (3 + (w32 (22 * x1)))) ∧ (w32 (3 + (w32 (22 * x1)))) < (280 : Nat)) ∧ ((0 ≤ ((upm (upm (upm (upm (upm V 369 0 s1) 379 0 ((upm V 369 0 s1) 381 (Int.toNat (w32 ((w32 ((w32 (0 + 4)) + (w32 (20 * x1)))) + x2))))) 379 1 x2) 379 2 ((upm V 369 0 s1) 381 (Int.toNat (w32 (0 + x1))))) 379 3 ((upm V 369 0 s1) 375 (Int.toNat (w32 (3 + (w32 (22 * x1))))))) 375 2) → Mf K d mX12_worthAt [vR 369, vI ((upm (upm (upm (upm (upm V 369 0 s1) 379 0 ((upm V 369 0 s1) 381 (Int.toNat (w32 ((w32 ((w32 (0 + 4)) + (w32 (20 * x1)))) + x2))))) 379 1 x2) 379 2 ((upm V 369 0 s1) 381 (Int.toNat (w32 (0 + x1))))) 379 3 ((upm V 369 0 s1) 375 (Int.toNat (w32 (3 + (w32 (22 * x1))))))) 375 2)] (upm (upm (upm (upm (upm V 369 0 s1) 379 0 ((upm V 369 0 s1) 381 (Int.toNat (w32 ((w32 ((w32 (0 + 4)) + (w32 (20 * x1)))) + x2))))) 379 1 x2) 379 2 ((upm V 369 0 s1) 381 (Int.toNat (w32 (0 + x1))))) 379 3 ((upm V 369 0 s1) 375 (Int.toNat (w32 (3 + (w32 (22 * x1))))))) (fun r V3 => ∃ z3, r = some (vI z3) ∧ Q (some (vI z3)) V3)) ∧ (¬ (0 ≤ ((upm (upm (upm (upm (upm V 369 0 s1) 379 0 ((upm V 369 0 s1) 381 (Int.toNat (w32 ((w32 ((w32 (0 + 4)) + (w32 (20 * x1)))) + x2))))) 379 1 x2) 379 2 ((upm V 369 0 s1) 381 (Int.toNat (w32 (0 + x1))))) 379 3 ((upm V 369 0 s1) 375 (Int.toNat (w32 (3 + (w32 (22 * x1))))))) 375 2)) → Q (some (vI ((upm V 369 0 s1) 381 (Int.toNat (w32 ((w32 ((w32 (0 + 4)) + (w32 (20 * x1)))) + x2)))))) (upm (upm (upm (upm (upm V 369 0 s1) 379 0 ((upm V 369 0 s1) 381 (Int.toNat (w32 ((w32 ((w32 (0 + 4)) + (w32 (20 * x1)))) + x2))))) 379 1 x2) 379 2 ((upm V 369 0 s1) 381 (Int.toNat (w32 (0 + x1))))) 379 3 ((upm V 369 0 s1) 375 (Int.toNat (w32 (3 + (w32 (22 * x1))))))))))))) ∧ (¬ (((upm V 369 0 s1) 369 0) ≤ 0) → Q (some (vI 0)) (upm V 369 0 s1)))) : Wf K (d + 2) mX12_weight 15 [some (vR 369), some (vI x1), some (vI x2)] [vI s1, vR 369] V Q := by
  refine wp_putI dX12_weight_15 fwX12_1 rfl sh369 (by decide) ?_
  refine wp_aload_n dX12_weight_18 rfl rfl ?_
  refine wp_getI dX12_weight_19 fX12_1 rfl sh369 (by decide) ?_
  refine wp_if_le (tgt := 29) dX12_weight_22 rfl (fun c1 => ?_) (fun c1 => ?_)
  ·
    refine wp_aload_n dX12_weight_29 rfl rfl ?_
    refine wp_aload_n dX12_weight_30 rfl rfl ?_
    refine wp_getR (b := 381) dX12_weight_31 fX12_93 rfl sh369 (by decide) rfl ?_
    refine wp_iconst dX12_weight_34 (by decide) ?_
    refine wp_iload_n dX12_weight_35 rfl rfl ?_
    refine wp_iload_n dX12_weight_36 rfl rfl ?_
    refine wp_inlS (d' := (d + 1)) (S := [vR 381, vR 369]) (as := [vI 0, vI x1, vI x2]) dX12_weight_37 lX12_307 (by omega) rfl rfl (Nat.le_of_ble_eq_true rfl) ⟨Nat.le_refl _, Nat.le_refl _⟩ (Mt.of2 (L := [some (vI 0), some (vI x1), some (vI x2)]) pnX12 rfl rfl ?_)
    refine wp_iload_n dX12_numberAt_0 rfl rfl ?_
    refine wp_iconst dX12_numberAt_1 (by decide) ?_
    refine wp_iadd dX12_numberAt_2 ?_
    refine wp_bipush dX12_numberAt_3 (by decide) ?_
    refine wp_iload_n dX12_numberAt_5 rfl rfl ?_
    refine wp_imul dX12_numberAt_6 ?_
    refine wp_iadd dX12_numberAt_7 ?_
    refine wp_iload_n dX12_numberAt_8 rfl rfl ?_
    refine wp_iadd dX12_numberAt_9 ?_
    refine wp_ireturn dX12_numberAt_10 rfl ⟨rfl, rfl⟩ ?_
    show Wp _ _ _ _ _ 40 _ [vI (w32 ((w32 ((w32 (0 + 4)) + (w32 (20 * x1)))) + x2)), vR 381, vR 369] _ _ _ _ _
    refine wp_iald dX12_weight_40 sh381 (h.1 c1).1 ?_
    refine wp_iload_n dX12_weight_41 rfl rfl ?_
    refine wp_aload_n dX12_weight_42 rfl rfl ?_
    refine wp_iconst dX12_weight_43 (by decide) ?_
    refine wp_iload_n dX12_weight_44 rfl rfl ?_
    refine wp_inlV (d' := (d + 1)) (S := [vI x2, vI ((upm V 369 0 s1) 381 (Int.toNat (w32 ((w32 ((w32 (0 + 4)) + (w32 (20 * x1)))) + x2)))), vR 369]) (as := [vI 0, vI x1]) dX12_weight_45 lX12_292 (by omega) sh369 rfl rfl (Nat.le_of_ble_eq_true rfl) ⟨Nat.le_refl _, Nat.le_refl _⟩ (Mt.of2 (L := [some (vR 369), some (vI 0), some (vI x1)]) pnX12 rfl rfl ?_)
    refine wp_aload_n dX12_manyOf_0 rfl rfl ?_
    refine wp_getR (b := 381) dX12_manyOf_1 fX12_93 rfl sh369 (by decide) rfl ?_
    refine wp_iload_n dX12_manyOf_4 rfl rfl ?_
    refine wp_iload_n dX12_manyOf_5 rfl rfl ?_
    refine wp_iadd dX12_manyOf_6 ?_
    refine wp_iald dX12_manyOf_7 sh381 (h.1 c1).2.1 ?_
    refine wp_ireturn dX12_manyOf_8 rfl ⟨rfl, rfl⟩ ?_
    show Wp _ _ _ _ _ 48 _ [vI ((upm V 369 0 s1) 381 (Int.toNat (w32 (0 + x1)))), vI x2, vI ((upm V 369 0 s1) 381 (Int.toNat (w32 ((w32 ((w32 (0 + 4)) + (w32 (20 * x1)))) + x2)))), vR 369] _ _ _ _ _
    refine wp_aload_n dX12_weight_48 rfl rfl ?_
    refine wp_iload_n dX12_weight_49 rfl rfl ?_
    refine wp_inlV (d' := (d + 1)) (S := [vI ((upm V 369 0 s1) 381 (Int.toNat (w32 (0 + x1)))), vI x2, vI ((upm V 369 0 s1) 381 (Int.toNat (w32 ((w32 ((w32 (0 + 4)) + (w32 (20 * x1)))) + x2)))), vR 369]) (as := [vI x1]) dX12_weight_50 lX12_298 (by omega) sh369 rfl rfl (Nat.le_of_ble_eq_true rfl) ⟨Nat.le_refl _, Nat.le_refl _⟩ (Mt.of2 (L := [some (vR 369), some (vI x1)]) pnX12 rfl rfl ?_)
    refine wp_aload_n dX12_kindOf_0 rfl rfl ?_
    refine wp_getR (b := 375) dX12_kindOf_1 fX12_75 rfl sh369 (by decide) rfl ?_
    refine wp_iconst dX12_kindOf_4 (by decide) ?_
    refine wp_bipush dX12_kindOf_5 (by decide) ?_
    refine wp_iload_n dX12_kindOf_7 rfl rfl ?_
    refine wp_imul dX12_kindOf_8 ?_
    refine wp_iadd dX12_kindOf_9 ?_
    refine wp_iald dX12_kindOf_10 sh375 (h.1 c1).2.2.1 ?_
    refine wp_ireturn dX12_kindOf_11 rfl ⟨rfl, rfl⟩ ?_
    show Wp _ _ _ _ _ 53 _ [vI ((upm V 369 0 s1) 375 (Int.toNat (w32 (3 + (w32 (22 * x1)))))), vI ((upm V 369 0 s1) 381 (Int.toNat (w32 (0 + x1)))), vI x2, vI ((upm V 369 0 s1) 381 (Int.toNat (w32 ((w32 ((w32 (0 + 4)) + (w32 (20 * x1)))) + x2)))), vR 369] _ _ _ _ _
    refine wp_inlV (d' := (d + 1)) (S := []) (as := [vI ((upm V 369 0 s1) 381 (Int.toNat (w32 ((w32 ((w32 (0 + 4)) + (w32 (20 * x1)))) + x2)))), vI x2, vI ((upm V 369 0 s1) 381 (Int.toNat (w32 (0 + x1)))), vI ((upm V 369 0 s1) 375 (Int.toNat (w32 (3 + (w32 (22 * x1))))))]) dX12_weight_53 lX12_310 (by omega) sh369 rfl rfl (Nat.le_of_ble_eq_true rfl) ⟨Nat.le_refl _, Nat.le_refl _⟩ (Mt.of2 (L := [some (vR 369), some (vI ((upm V 369 0 s1) 381 (Int.toNat (w32 ((w32 ((w32 (0 + 4)) + (w32 (20 * x1)))) + x2))))), some (vI x2), some (vI ((upm V 369 0 s1) 381 (Int.toNat (w32 (0 + x1))))), some (vI ((upm V 369 0 s1) 375 (Int.toNat (w32 (3 + (w32 (22 * x1)))))))]) pnX12 rfl rfl ?_)
    refine wp_aload_n dX12_weighs_0 rfl rfl ?_
    refine wp_getR (b := 379) dX12_weighs_1 fX12_87 rfl sh369 (by decide) rfl ?_
    refine wp_iconst dX12_weighs_4 (by decide) ?_
    refine wp_iload_n dX12_weighs_5 rfl rfl ?_
    refine wp_iast dX12_weighs_6 sh379 (by decide) ?_
    refine wp_aload_n dX12_weighs_7 rfl rfl ?_
    refine wp_getR (b := 379) dX12_weighs_8 fX12_87 rfl sh369 (by decide) rfl ?_
    refine wp_iconst dX12_weighs_11 (by decide) ?_
    refine wp_iload_n dX12_weighs_12 rfl rfl ?_
    refine wp_iast dX12_weighs_13 sh379 (by decide) ?_
    refine wp_aload_n dX12_weighs_14 rfl rfl ?_
    refine wp_getR (b := 379) dX12_weighs_15 fX12_87 rfl sh369 (by decide) rfl ?_
    refine wp_iconst dX12_weighs_18 (by decide) ?_
    refine wp_iload_n dX12_weighs_19 rfl rfl ?_
    refine wp_iast dX12_weighs_20 sh379 (by decide) ?_
    refine wp_aload_n dX12_weighs_21 rfl rfl ?_
    refine wp_getR (b := 379) dX12_weighs_22 fX12_87 rfl sh369 (by decide) rfl ?_
    refine wp_iconst dX12_weighs_25 (by decide) ?_
    refine wp_iload dX12_weighs_26 rfl ?_
    refine wp_iast dX12_weighs_28 sh379 (by decide) ?_
    refine wp_aload_n dX12_weighs_29 rfl rfl ?_
    refine wp_getR (b := 375) dX12_weighs_30 fX12_75 rfl sh369 (by decide) rfl ?_
    refine wp_iconst dX12_weighs_33 (by decide) ?_
    refine wp_iald dX12_weighs_34 sh375 (by decide) ?_
    refine wp_if_ge (tgt := 42) dX12_weighs_35 rfl (fun c2 => ?_) (fun c2 => ?_)
    ·
      refine wp_aload_n dX12_weighs_42 rfl rfl ?_
      refine wp_aload_n dX12_weighs_43 rfl rfl ?_
      refine wp_getR (b := 375) dX12_weighs_44 fX12_75 rfl sh369 (by decide) rfl ?_
      refine wp_iconst dX12_weighs_47 (by decide) ?_
      refine wp_iald dX12_weighs_48 sh375 (by decide) ?_
      refine wp_callV (S := []) (as := [vI ((upm (upm (upm (upm (upm V 369 0 s1) 379 0 ((upm V 369 0 s1) 381 (Int.toNat (w32 ((w32 ((w32 (0 + 4)) + (w32 (20 * x1)))) + x2))))) 379 1 x2) 379 2 ((upm V 369 0 s1) 381 (Int.toNat (w32 (0 + x1))))) 379 3 ((upm V 369 0 s1) 375 (Int.toNat (w32 (3 + (w32 (22 * x1))))))) 375 2)]) dX12_weighs_49 lX12_295 (((h.1 c1).2.2.2.1 c2)) (by omega) sh369 rfl rfl (Nat.le_of_ble_eq_true rfl) ⟨Nat.le_refl _, Nat.le_refl _⟩ ?_
      rintro _ _ V3 ⟨rfl, z3, rfl, q3⟩
      show Wp _ _ _ _ _ 52 _ [vI z3] _ _ _ _ _
      refine wp_ireturn dX12_weighs_52 rfl ⟨rfl, rfl⟩ ?_
      show Wp _ _ _ _ _ 56 _ [vI z3] _ _ _ _ _
      exact wp_ireturn dX12_weight_56 rfl ⟨rfl, rfl⟩ ⟨rfl, q3⟩
    ·
      refine wp_iload_n dX12_weighs_38 rfl rfl ?_
      refine wp_goto (tgt := 52) dX12_weighs_39 rfl ?_
      refine wp_ireturn dX12_weighs_52 rfl ⟨rfl, rfl⟩ ?_
      show Wp _ _ _ _ _ 56 _ [vI ((upm V 369 0 s1) 381 (Int.toNat (w32 ((w32 ((w32 (0 + 4)) + (w32 (20 * x1)))) + x2))))] _ _ _ _ _
      exact wp_ireturn dX12_weight_56 rfl ⟨rfl, rfl⟩ ⟨rfl, ((h.1 c1).2.2.2.2 c2)⟩
  ·
    refine wp_iconst dX12_weight_25 (by decide) ?_
    refine wp_goto (tgt := 56) dX12_weight_26 rfl ?_
    exact wp_ireturn dX12_weight_56 rfl ⟨rfl, rfl⟩ ⟨rfl, (h.2 c1)⟩
set_option maxHeartbeats 4000000 in
set_option maxRecDepth 10000 in
theorem sX12_mayDo {K : KK} {d : Nat} {V : Mem} {Q : Option AV → Mem → Prop} (x1 : Int) (x2 : Int) (x3 : Int) (x4 : Int) (h : ((x2 = 0 → (((0 : Int) ≤ (w32 (x1 + x3)) ∧ (w32 (x1 + x3)) < (4532 : Nat)) ∧ ((20 ≤ (V 381 (Int.toNat (w32 (x1 + x3)))) → Q (some (vI 0)) V) ∧ (¬ (20 ≤ (V 381 (Int.toNat (w32 (x1 + x3))))) → Q (some (vI 1)) V)))) ∧ (x2 = 1 → (((0 : Int) ≤ (w32 (x1 + x3)) ∧ (w32 (x1 + x3)) < (4532 : Nat)) ∧ (((V 381 (Int.toNat (w32 (x1 + x3)))) ≤ 1 → Q (some (vI 0)) V) ∧ (¬ ((V 381 (Int.toNat (w32 (x1 + x3)))) ≤ 1) → Q (some (vI 1)) V)))) ∧ (x2 = 2 → Q (some (vI 1)) V) ∧ (x2 = 3 → (((0 : Int) ≤ (w32 ((w32 (x1 + 85)) + x3)) ∧ (w32 ((w32 (x1 + 85)) + x3)) < (4532 : Nat)) ∧ (((w32 ((V 381 (Int.toNat (w32 ((w32 (x1 + 85)) + x3)))) - 1)) ≤ x4 → Q (some (vI 0)) V) ∧ (¬ ((w32 ((V 381 (Int.toNat (w32 ((w32 (x1 + 85)) + x3)))) - 1)) ≤ x4) → Mf K d mX12_strandAt [vR 369, vI x1, vI x3, vI x4] V (fun r V4 => ∃ z4, r = some (vI z4) ∧ Mf K d mX12_strandAt [vR 369, vI x1, vI x3, vI (w32 (x4 + 1))] V4 (fun r V5 => ∃ z5, r = some (vI z5) ∧ ((z5 ≤ z4 → Q (some (vI 0)) V5) ∧ (¬ (z5 ≤ z4) → Q (some (vI 1)) V5)))))))) ∧ ((x2 < 0 ∨ 3 < x2) → (((0 : Int) ≤ (w32 (x1 + 84)) ∧ (w32 (x1 + 84)) < (4532 : Nat)) ∧ ((8 ≤ (V 381 (Int.toNat (w32 (x1 + 84)))) → Q (some (vI 0)) V) ∧ (¬ (8 ≤ (V 381 (Int.toNat (w32 (x1 + 84))))) → (((0 : Int) ≤ (w32 ((w32 (x1 + 85)) + x3)) ∧ (w32 ((w32 (x1 + 85)) + x3)) < (4532 : Nat)) ∧ (((0 : Int) ≤ (w32 ((w32 (x1 + 85)) + x4)) ∧ (w32 ((w32 (x1 + 85)) + x4)) < (4532 : Nat)) ∧ ((¬ (V 381 (Int.toNat (w32 ((w32 (x1 + 85)) + x3)))) = (V 381 (Int.toNat (w32 ((w32 (x1 + 85)) + x4)))) → Q (some (vI 0)) V) ∧ ((V 381 (Int.toNat (w32 ((w32 (x1 + 85)) + x3)))) = (V 381 (Int.toNat (w32 ((w32 (x1 + 85)) + x4)))) → Q (some (vI 1)) V)))))))))) : Mf K (d + 1) mX12_mayDo [vR 369, vI x1, vI x2, vI x3, vI x4] V Q := by
  refine Mt.of2 (L := [some (vR 369), some (vI x1), some (vI x2), some (vI x3), some (vI x4)]) pnX12 rfl rfl ?_
  refine wp_iload_n dX12_mayDo_0 rfl rfl ?_
  refine tswS 0 3 x2 (fun o11 => ?_) (fun l11 u11 => ?_)
  ·
    refine wp_tswOut (tgt := 112) dX12_mayDo_1 o11 rfl ?_
    refine wp_aload_n dX12_mayDo_112 rfl rfl ?_
    refine wp_getR (b := 381) dX12_mayDo_113 fX12_93 rfl sh369 (by decide) rfl ?_
    refine wp_iload_n dX12_mayDo_116 rfl rfl ?_
    refine wp_bipush dX12_mayDo_117 (by decide) ?_
    refine wp_iadd dX12_mayDo_119 ?_
    refine wp_iald dX12_mayDo_120 sh381 ((h.2.2.2.2) o11).1 ?_
    refine wp_bipush dX12_mayDo_121 (by decide) ?_
    refine wp_icmp_ge (tgt := 141) dX12_mayDo_123 rfl (fun c7 => ?_) (fun c7 => ?_)
    ·
      refine wp_iconst dX12_mayDo_141 (by decide) ?_
      exact wp_zreturn dX12_mayDo_142 rfl ⟨rfl, rfl⟩ (by decide) ⟨rfl, (((h.2.2.2.2) o11).2.1 c7)⟩
    ·
      refine wp_aload_n dX12_mayDo_126 rfl rfl ?_
      refine wp_iload_n dX12_mayDo_127 rfl rfl ?_
      refine wp_iload_n dX12_mayDo_128 rfl rfl ?_
      refine wp_iload dX12_mayDo_129 rfl ?_
      refine wp_inlV (d' := d) (S := []) (as := [vI x1, vI x3, vI x4]) dX12_mayDo_131 lX12_391 (by omega) sh369 rfl rfl (Nat.le_of_ble_eq_true rfl) ⟨Nat.le_refl _, Nat.le_refl _⟩ (Mt.of2 (L := [some (vR 369), some (vI x1), some (vI x3), some (vI x4)]) pnX12 rfl rfl ?_)
      refine wp_aload_n dX12_areAlike_0 rfl rfl ?_
      refine wp_getR (b := 381) dX12_areAlike_1 fX12_93 rfl sh369 (by decide) rfl ?_
      refine wp_iload_n dX12_areAlike_4 rfl rfl ?_
      refine wp_bipush dX12_areAlike_5 (by decide) ?_
      refine wp_iadd dX12_areAlike_7 ?_
      refine wp_iload_n dX12_areAlike_8 rfl rfl ?_
      refine wp_iadd dX12_areAlike_9 ?_
      refine wp_iald dX12_areAlike_10 sh381 (((h.2.2.2.2) o11).2.2 c7).1 ?_
      refine wp_aload_n dX12_areAlike_11 rfl rfl ?_
      refine wp_getR (b := 381) dX12_areAlike_12 fX12_93 rfl sh369 (by decide) rfl ?_
      refine wp_iload_n dX12_areAlike_15 rfl rfl ?_
      refine wp_bipush dX12_areAlike_16 (by decide) ?_
      refine wp_iadd dX12_areAlike_18 ?_
      refine wp_iload_n dX12_areAlike_19 rfl rfl ?_
      refine wp_iadd dX12_areAlike_20 ?_
      refine wp_iald dX12_areAlike_21 sh381 (((h.2.2.2.2) o11).2.2 c7).2.1 ?_
      refine wp_icmp_ne (tgt := 29) dX12_areAlike_22 rfl (fun c8 => ?_) (fun c8 => ?_)
      ·
        refine wp_iconst dX12_areAlike_29 (by decide) ?_
        refine wp_zreturn dX12_areAlike_30 rfl ⟨rfl, rfl⟩ (by decide) ?_
        show Wp _ _ _ _ _ 134 _ [vI 0] _ _ _ _ _
        refine wp_if_eq (tgt := 141) dX12_mayDo_134 rfl (fun c9 => ?_) (fun c9 => False.elim (by revert c9; decide))
        refine wp_iconst dX12_mayDo_141 (by decide) ?_
        exact wp_zreturn dX12_mayDo_142 rfl ⟨rfl, rfl⟩ (by decide) ⟨rfl, ((((h.2.2.2.2) o11).2.2 c7).2.2.1 c8)⟩
      ·
        refine wp_iconst dX12_areAlike_25 (by decide) ?_
        refine wp_goto (tgt := 30) dX12_areAlike_26 rfl ?_
        refine wp_zreturn dX12_areAlike_30 rfl ⟨rfl, rfl⟩ (by decide) ?_
        show Wp _ _ _ _ _ 134 _ [vI 1] _ _ _ _ _
        refine wp_if_eq (tgt := 141) dX12_mayDo_134 rfl (fun c10 => False.elim (by revert c10; decide)) (fun c10 => ?_)
        refine wp_iconst dX12_mayDo_137 (by decide) ?_
        refine wp_goto (tgt := 142) dX12_mayDo_138 rfl ?_
        exact wp_zreturn dX12_mayDo_142 rfl ⟨rfl, rfl⟩ (by decide) ⟨rfl, ((((h.2.2.2.2) o11).2.2 c7).2.2.2 c8)⟩
  ·
    rcases (show x2 = 0 ∨ x2 = 1 ∨ x2 = 2 ∨ x2 = 3 by omega) with e11 | e11 | e11 | e11
    ·
      refine wp_tswIn (tgt := 32) dX12_mayDo_1 l11 u11 (by rw [e11] <;> rfl) rfl ?_
      refine wp_aload_n dX12_mayDo_32 rfl rfl ?_
      refine wp_iload_n dX12_mayDo_33 rfl rfl ?_
      refine wp_iload_n dX12_mayDo_34 rfl rfl ?_
      refine wp_inlV (d' := d) (S := []) (as := [vI x1, vI x3]) dX12_mayDo_35 lX12_292 (by omega) sh369 rfl rfl (Nat.le_of_ble_eq_true rfl) ⟨Nat.le_refl _, Nat.le_refl _⟩ (Mt.of2 (L := [some (vR 369), some (vI x1), some (vI x3)]) pnX12 rfl rfl ?_)
      refine wp_aload_n dX12_manyOf_0 rfl rfl ?_
      refine wp_getR (b := 381) dX12_manyOf_1 fX12_93 rfl sh369 (by decide) rfl ?_
      refine wp_iload_n dX12_manyOf_4 rfl rfl ?_
      refine wp_iload_n dX12_manyOf_5 rfl rfl ?_
      refine wp_iadd dX12_manyOf_6 ?_
      refine wp_iald dX12_manyOf_7 sh381 ((h.1) e11).1 ?_
      refine wp_ireturn dX12_manyOf_8 rfl ⟨rfl, rfl⟩ ?_
      show Wp _ _ _ _ _ 38 _ [vI (V 381 (Int.toNat (w32 (x1 + x3))))] _ _ _ _ _
      refine wp_bipush dX12_mayDo_38 (by decide) ?_
      refine wp_icmp_ge (tgt := 47) dX12_mayDo_40 rfl (fun c1 => ?_) (fun c1 => ?_)
      ·
        refine wp_iconst dX12_mayDo_47 (by decide) ?_
        exact wp_zreturn dX12_mayDo_48 rfl ⟨rfl, rfl⟩ (by decide) ⟨rfl, (((h.1) e11).2.1 c1)⟩
      ·
        refine wp_iconst dX12_mayDo_43 (by decide) ?_
        refine wp_goto (tgt := 48) dX12_mayDo_44 rfl ?_
        exact wp_zreturn dX12_mayDo_48 rfl ⟨rfl, rfl⟩ (by decide) ⟨rfl, (((h.1) e11).2.2 c1)⟩
    ·
      refine wp_tswIn (tgt := 49) dX12_mayDo_1 l11 u11 (by rw [e11] <;> rfl) rfl ?_
      refine wp_aload_n dX12_mayDo_49 rfl rfl ?_
      refine wp_iload_n dX12_mayDo_50 rfl rfl ?_
      refine wp_iload_n dX12_mayDo_51 rfl rfl ?_
      refine wp_inlV (d' := d) (S := []) (as := [vI x1, vI x3]) dX12_mayDo_52 lX12_292 (by omega) sh369 rfl rfl (Nat.le_of_ble_eq_true rfl) ⟨Nat.le_refl _, Nat.le_refl _⟩ (Mt.of2 (L := [some (vR 369), some (vI x1), some (vI x3)]) pnX12 rfl rfl ?_)
      refine wp_aload_n dX12_manyOf_0 rfl rfl ?_
      refine wp_getR (b := 381) dX12_manyOf_1 fX12_93 rfl sh369 (by decide) rfl ?_
      refine wp_iload_n dX12_manyOf_4 rfl rfl ?_
      refine wp_iload_n dX12_manyOf_5 rfl rfl ?_
      refine wp_iadd dX12_manyOf_6 ?_
      refine wp_iald dX12_manyOf_7 sh381 ((h.2.1) e11).1 ?_
      refine wp_ireturn dX12_manyOf_8 rfl ⟨rfl, rfl⟩ ?_
      show Wp _ _ _ _ _ 55 _ [vI (V 381 (Int.toNat (w32 (x1 + x3))))] _ _ _ _ _
      refine wp_iconst dX12_mayDo_55 (by decide) ?_
      refine wp_icmp_le (tgt := 63) dX12_mayDo_56 rfl (fun c2 => ?_) (fun c2 => ?_)
      ·
        refine wp_iconst dX12_mayDo_63 (by decide) ?_
        exact wp_zreturn dX12_mayDo_64 rfl ⟨rfl, rfl⟩ (by decide) ⟨rfl, (((h.2.1) e11).2.1 c2)⟩
      ·
        refine wp_iconst dX12_mayDo_59 (by decide) ?_
        refine wp_goto (tgt := 64) dX12_mayDo_60 rfl ?_
        exact wp_zreturn dX12_mayDo_64 rfl ⟨rfl, rfl⟩ (by decide) ⟨rfl, (((h.2.1) e11).2.2 c2)⟩
    ·
      refine wp_tswIn (tgt := 65) dX12_mayDo_1 l11 u11 (by rw [e11] <;> rfl) rfl ?_
      refine wp_iconst dX12_mayDo_65 (by decide) ?_
      exact wp_zreturn dX12_mayDo_66 rfl ⟨rfl, rfl⟩ (by decide) ⟨rfl, ((h.2.2.1) e11)⟩
    ·
      refine wp_tswIn (tgt := 67) dX12_mayDo_1 l11 u11 (by rw [e11] <;> rfl) rfl ?_
      refine wp_iload dX12_mayDo_67 rfl ?_
      refine wp_aload_n dX12_mayDo_69 rfl rfl ?_
      refine wp_getR (b := 381) dX12_mayDo_70 fX12_93 rfl sh369 (by decide) rfl ?_
      refine wp_iload_n dX12_mayDo_73 rfl rfl ?_
      refine wp_bipush dX12_mayDo_74 (by decide) ?_
      refine wp_iadd dX12_mayDo_76 ?_
      refine wp_iload_n dX12_mayDo_77 rfl rfl ?_
      refine wp_iadd dX12_mayDo_78 ?_
      refine wp_iald dX12_mayDo_79 sh381 ((h.2.2.2.1) e11).1 ?_
      refine wp_iconst dX12_mayDo_80 (by decide) ?_
      refine wp_isub dX12_mayDo_81 ?_
      refine wp_icmp_ge (tgt := 110) dX12_mayDo_82 rfl (fun c3 => ?_) (fun c3 => ?_)
      ·
        refine wp_iconst dX12_mayDo_110 (by decide) ?_
        exact wp_zreturn dX12_mayDo_111 rfl ⟨rfl, rfl⟩ (by decide) ⟨rfl, (((h.2.2.2.1) e11).2.1 c3)⟩
      ·
        refine wp_aload_n dX12_mayDo_85 rfl rfl ?_
        refine wp_iload_n dX12_mayDo_86 rfl rfl ?_
        refine wp_iload_n dX12_mayDo_87 rfl rfl ?_
        refine wp_iload dX12_mayDo_88 rfl ?_
        refine wp_callV (S := []) (as := [vI x1, vI x3, vI x4]) dX12_mayDo_90 lX12_400 ((((h.2.2.2.1) e11).2.2 c3)) (by omega) sh369 rfl rfl (Nat.le_of_ble_eq_true rfl) ⟨Nat.le_refl _, Nat.le_refl _⟩ ?_
        rintro _ _ V4 ⟨rfl, z4, rfl, q4⟩
        show Wp _ _ _ _ _ 93 _ [vI z4] _ _ _ _ _
        refine wp_aload_n dX12_mayDo_93 rfl rfl ?_
        refine wp_iload_n dX12_mayDo_94 rfl rfl ?_
        refine wp_iload_n dX12_mayDo_95 rfl rfl ?_
        refine wp_iload dX12_mayDo_96 rfl ?_
        refine wp_iconst dX12_mayDo_98 (by decide) ?_
        refine wp_iadd dX12_mayDo_99 ?_
        refine wp_callV (S := [vI z4]) (as := [vI x1, vI x3, vI (w32 (x4 + 1))]) dX12_mayDo_100 lX12_400 (q4) (by omega) sh369 rfl rfl (Nat.le_of_ble_eq_true rfl) ⟨Nat.le_refl _, Nat.le_refl _⟩ ?_
        rintro _ _ V5 ⟨rfl, z5, rfl, q5⟩
        show Wp _ _ _ _ _ 103 _ [vI z5, vI z4] _ _ _ _ _
        refine wp_icmp_ge (tgt := 110) dX12_mayDo_103 rfl (fun c6 => ?_) (fun c6 => ?_)
        ·
          refine wp_iconst dX12_mayDo_110 (by decide) ?_
          exact wp_zreturn dX12_mayDo_111 rfl ⟨rfl, rfl⟩ (by decide) ⟨rfl, (q5.1 c6)⟩
        ·
          refine wp_iconst dX12_mayDo_106 (by decide) ?_
          refine wp_goto (tgt := 111) dX12_mayDo_107 rfl ?_
          exact wp_zreturn dX12_mayDo_111 rfl ⟨rfl, rfl⟩ (by decide) ⟨rfl, (q5.2 c6)⟩
set_option maxHeartbeats 4000000 in
set_option maxRecDepth 10000 in
theorem sX12_strandAt {K : KK} {d : Nat} {V : Mem} {Q : Option AV → Mem → Prop} (x1 : Int) (x2 : Int) (x3 : Int) (h : Wf K d mX12_strandAt 3 [some (vR 369), some (vI x1), some (vI x2), some (vI x3), some (vI 0)] [] V Q) : Mf K d mX12_strandAt [vR 369, vI x1, vI x2, vI x3] V Q := by
  refine Mt.of2 (L := [some (vR 369), some (vI x1), some (vI x2), some (vI x3), none]) pnX12 rfl rfl ?_
  refine wp_iconst dX12_strandAt_0 (by decide) ?_
  refine wp_istore dX12_strandAt_1 (by decide) rfl ?_
  exact h
set_option maxHeartbeats 4000000 in
set_option maxRecDepth 10000 in
theorem sX12_strandAt_3 {K : KK} {d : Nat} {V : Mem} {Q : Option AV → Mem → Prop} (x1 : Int) (x2 : Int) (x3 : Int) (x4 : Int) (h : (((0 : Int) ≤ (w32 ((w32 ((w32 (x1 + 101)) + (w32 (10 * x2)))) + x4)) ∧ (w32 ((w32 ((w32 (x1 + 101)) + (w32 (10 * x2)))) + x4)) < (4532 : Nat)) ∧ (((V 381 (Int.toNat (w32 ((w32 ((w32 (x1 + 101)) + (w32 (10 * x2)))) + x4)))) = x3 → Q (some (vI x4)) V) ∧ (¬ ((V 381 (Int.toNat (w32 ((w32 ((w32 (x1 + 101)) + (w32 (10 * x2)))) + x4)))) = x3) → Wf K d mX12_strandAt 3 [some (vR 369), some (vI x1), some (vI x2), some (vI x3), some (vI (w32 (x4 + 1)))] [] V Q)))) : Wf K d mX12_strandAt 3 [some (vR 369), some (vI x1), some (vI x2), some (vI x3), some (vI x4)] [] V Q := by
  refine wp_aload_n dX12_strandAt_3 rfl rfl ?_
  refine wp_getR (b := 381) dX12_strandAt_4 fX12_93 rfl sh369 (by decide) rfl ?_
  refine wp_iload_n dX12_strandAt_7 rfl rfl ?_
  refine wp_bipush dX12_strandAt_8 (by decide) ?_
  refine wp_iadd dX12_strandAt_10 ?_
  refine wp_bipush dX12_strandAt_11 (by decide) ?_
  refine wp_iload_n dX12_strandAt_13 rfl rfl ?_
  refine wp_imul dX12_strandAt_14 ?_
  refine wp_iadd dX12_strandAt_15 ?_
  refine wp_iload dX12_strandAt_16 rfl ?_
  refine wp_iadd dX12_strandAt_18 ?_
  refine wp_iald dX12_strandAt_19 sh381 h.1 ?_
  refine wp_iload_n dX12_strandAt_20 rfl rfl ?_
  refine wp_icmp_eq (tgt := 30) dX12_strandAt_21 rfl (fun c1 => ?_) (fun c1 => ?_)
  ·
    refine wp_iload dX12_strandAt_30 rfl ?_
    exact wp_ireturn dX12_strandAt_32 rfl ⟨rfl, rfl⟩ ⟨rfl, (h.2.1 c1)⟩
  ·
    refine wp_iinc dX12_strandAt_24 rfl rfl ?_
    refine wp_goto (tgt := 3) dX12_strandAt_27 rfl ?_
    exact (h.2.2 c1)
set_option maxHeartbeats 4000000 in
set_option maxRecDepth 10000 in
theorem sX12_does {K : KK} {d : Nat} {V : Mem} {Q : Option AV → Mem → Prop} (x1 : Int) (x2 : Int) (x3 : Int) (x4 : Int) (h : ((¬ x2 = 0 → ((¬ x2 = 1 → ((¬ x2 = 2 → ((¬ x2 = 3 → Mf K d mX12_laysBraid [vR 369, vI x1, vI x3, vR 394] V (fun r V5 => r = none ∧ Mf K d mX12_laysBraid [vR 369, vI x1, vI x4, vR 395] V5 (fun r V6 => r = none ∧ (((0 : Int) ≤ (w32 ((w32 (x1 + 85)) + x3)) ∧ (w32 ((w32 (x1 + 85)) + x3)) < (4532 : Nat)) ∧ Mf K d mX12_composes [vR 369, vI (V6 381 (Int.toNat (w32 ((w32 (x1 + 85)) + x3))))] V6 (fun r V7 => r = none ∧ (((0 : Int) ≤ (w32 (x1 + 84)) ∧ (w32 (x1 + 84)) < (4532 : Nat)) ∧ (((0 : Int) ≤ (w32 ((w32 (x1 + 85)) + (V7 381 (Int.toNat (w32 (x1 + 84)))))) ∧ (w32 ((w32 (x1 + 85)) + (V7 381 (Int.toNat (w32 (x1 + 84)))))) < (4532 : Nat)) ∧ Wf K (d + 1) mX12_does 291 [some (vR 369), some (vI x1), none, none, none, some (vI (V6 381 (Int.toNat (w32 ((w32 (x1 + 85)) + x3))))), some (vI (V7 381 (Int.toNat (w32 (x1 + 84))))), some (vI 0)] [] (upm V7 381 (Int.toNat (w32 ((w32 (x1 + 85)) + (V7 381 (Int.toNat (w32 (x1 + 84))))))) (V6 381 (Int.toNat (w32 ((w32 (x1 + 85)) + x3))))) Q))))))) ∧ (x2 = 3 → Mf K d mX12_strandAt [vR 369, vI x1, vI x3, vI x4] V (fun r V8 => ∃ z8, r = some (vI z8) ∧ Mf K d mX12_strandAt [vR 369, vI x1, vI x3, vI (w32 (x4 + 1))] V8 (fun r V9 => ∃ z9, r = some (vI z9) ∧ (((0 : Int) ≤ (w32 ((w32 ((w32 (x1 + 101)) + (w32 (10 * x3)))) + z8)) ∧ (w32 ((w32 ((w32 (x1 + 101)) + (w32 (10 * x3)))) + z8)) < (4532 : Nat)) ∧ (((0 : Int) ≤ (w32 ((w32 ((w32 (x1 + 101)) + (w32 (10 * x3)))) + z9)) ∧ (w32 ((w32 ((w32 (x1 + 101)) + (w32 (10 * x3)))) + z9)) < (4532 : Nat)) ∧ Q none (upm (upm V9 381 (Int.toNat (w32 ((w32 ((w32 (x1 + 101)) + (w32 (10 * x3)))) + z8))) (w32 (x4 + 1))) 381 (Int.toNat (w32 ((w32 ((w32 (x1 + 101)) + (w32 (10 * x3)))) + z9))) x4)))))))) ∧ (x2 = 2 → (((0 : Int) ≤ (w32 (x1 + x3)) ∧ (w32 (x1 + x3)) < (4532 : Nat)) ∧ Wf K (d + 1) mX12_does 73 [some (vR 369), some (vI x1), none, some (vI x3), none, some (vI (V 381 (Int.toNat (w32 (x1 + x3))))), some (vI 0), none] [] V Q)))) ∧ (x2 = 1 → (((0 : Int) ≤ (w32 (x1 + x3)) ∧ (w32 (x1 + x3)) < (4532 : Nat)) ∧ (((0 : Int) ≤ (w32 (x1 + x3)) ∧ (w32 (x1 + x3)) < (4532 : Nat)) ∧ Q none (upm V 381 (Int.toNat (w32 (x1 + x3))) (w32 ((V 381 (Int.toNat (w32 (x1 + x3)))) - 1)))))))) ∧ (x2 = 0 → (((0 : Int) ≤ (w32 (x1 + x3)) ∧ (w32 (x1 + x3)) < (4532 : Nat)) ∧ (((0 : Int) ≤ (w32 ((w32 ((w32 (x1 + 4)) + (w32 (20 * x3)))) + (V 381 (Int.toNat (w32 (x1 + x3)))))) ∧ (w32 ((w32 ((w32 (x1 + 4)) + (w32 (20 * x3)))) + (V 381 (Int.toNat (w32 (x1 + x3)))))) < (4532 : Nat)) ∧ (((0 : Int) ≤ (w32 (x1 + x3)) ∧ (w32 (x1 + x3)) < (4532 : Nat)) ∧ (((0 : Int) ≤ (w32 (x1 + x3)) ∧ (w32 (x1 + x3)) < (4532 : Nat)) ∧ Q none (upm (upm V 381 (Int.toNat (w32 ((w32 ((w32 (x1 + 4)) + (w32 (20 * x3)))) + (V 381 (Int.toNat (w32 (x1 + x3))))))) x4) 381 (Int.toNat (w32 (x1 + x3))) (w32 (((upm V 381 (Int.toNat (w32 ((w32 ((w32 (x1 + 4)) + (w32 (20 * x3)))) + (V 381 (Int.toNat (w32 (x1 + x3))))))) x4) 381 (Int.toNat (w32 (x1 + x3)))) + 1)))))))))) : Mf K (d + 1) mX12_does [vR 369, vI x1, vI x2, vI x3, vI x4] V Q := by
  refine Mt.of2 (L := [some (vR 369), some (vI x1), some (vI x2), some (vI x3), some (vI x4), none, none, none]) pnX12 rfl rfl ?_
  refine wp_iload_n dX12_does_0 rfl rfl ?_
  refine wp_if_ne (tgt := 37) dX12_does_1 rfl (fun c1 => ?_) (fun c1 => ?_)
  ·
    refine wp_iload_n dX12_does_37 rfl rfl ?_
    refine wp_iconst dX12_does_38 (by decide) ?_
    refine wp_icmp_ne (tgt := 57) dX12_does_39 rfl (fun c2 => ?_) (fun c2 => ?_)
    ·
      refine wp_iload_n dX12_does_57 rfl rfl ?_
      refine wp_iconst dX12_does_58 (by decide) ?_
      refine wp_icmp_ne (tgt := 153) dX12_does_59 rfl (fun c3 => ?_) (fun c3 => ?_)
      ·
        refine wp_iload_n dX12_does_153 rfl rfl ?_
        refine wp_iconst dX12_does_154 (by decide) ?_
        refine wp_icmp_ne (tgt := 223) dX12_does_155 rfl (fun c4 => ?_) (fun c4 => ?_)
        ·
          refine wp_aload_n dX12_does_223 rfl rfl ?_
          refine wp_iload_n dX12_does_224 rfl rfl ?_
          refine wp_iload_n dX12_does_225 rfl rfl ?_
          refine wp_aload_n dX12_does_226 rfl rfl ?_
          refine wp_getR (b := 394) dX12_does_227 fX12_133 rfl sh369 (by decide) rfl ?_
          refine wp_callV (S := []) (as := [vI x1, vI x3, vR 394]) dX12_does_230 lX12_387 (((((h.1 c1).1 c2).1 c3).1 c4)) (by omega) sh369 rfl rfl (Nat.le_of_ble_eq_true rfl) ⟨Nat.le_refl _, Nat.le_refl _⟩ ?_
          rintro _ _ V5 ⟨rfl, rfl, q5⟩
          show Wp _ _ _ _ _ 233 _ [] _ _ _ _ _
          refine wp_aload_n dX12_does_233 rfl rfl ?_
          refine wp_iload_n dX12_does_234 rfl rfl ?_
          refine wp_iload dX12_does_235 rfl ?_
          refine wp_aload_n dX12_does_237 rfl rfl ?_
          refine wp_getR (b := 395) dX12_does_238 fX12_136 rfl sh369 (by decide) rfl ?_
          refine wp_callV (S := []) (as := [vI x1, vI x4, vR 395]) dX12_does_241 lX12_387 (q5) (by omega) sh369 rfl rfl (Nat.le_of_ble_eq_true rfl) ⟨Nat.le_refl _, Nat.le_refl _⟩ ?_
          rintro _ _ V6 ⟨rfl, rfl, q6⟩
          show Wp _ _ _ _ _ 244 _ [] _ _ _ _ _
          refine wp_aload_n dX12_does_244 rfl rfl ?_
          refine wp_getR (b := 381) dX12_does_245 fX12_93 rfl sh369 (by decide) rfl ?_
          refine wp_iload_n dX12_does_248 rfl rfl ?_
          refine wp_bipush dX12_does_249 (by decide) ?_
          refine wp_iadd dX12_does_251 ?_
          refine wp_iload_n dX12_does_252 rfl rfl ?_
          refine wp_iadd dX12_does_253 ?_
          refine wp_iald dX12_does_254 sh381 q6.1 ?_
          refine wp_istore dX12_does_255 (by decide) rfl ?_
          refine wp_aload_n dX12_does_257 rfl rfl ?_
          refine wp_iload dX12_does_258 rfl ?_
          refine wp_callV (S := []) (as := [vI (V6 381 (Int.toNat (w32 ((w32 (x1 + 85)) + x3))))]) dX12_does_260 lX12_394 (q6.2) (by omega) sh369 rfl rfl (Nat.le_of_ble_eq_true rfl) ⟨Nat.le_refl _, Nat.le_refl _⟩ ?_
          rintro _ _ V7 ⟨rfl, rfl, q7⟩
          show Wp _ _ _ _ _ 263 _ [] _ _ _ _ _
          refine wp_aload_n dX12_does_263 rfl rfl ?_
          refine wp_getR (b := 381) dX12_does_264 fX12_93 rfl sh369 (by decide) rfl ?_
          refine wp_iload_n dX12_does_267 rfl rfl ?_
          refine wp_bipush dX12_does_268 (by decide) ?_
          refine wp_iadd dX12_does_270 ?_
          refine wp_iald dX12_does_271 sh381 q7.1 ?_
          refine wp_istore dX12_does_272 (by decide) rfl ?_
          refine wp_aload_n dX12_does_274 rfl rfl ?_
          refine wp_getR (b := 381) dX12_does_275 fX12_93 rfl sh369 (by decide) rfl ?_
          refine wp_iload_n dX12_does_278 rfl rfl ?_
          refine wp_bipush dX12_does_279 (by decide) ?_
          refine wp_iadd dX12_does_281 ?_
          refine wp_iload dX12_does_282 rfl ?_
          refine wp_iadd dX12_does_284 ?_
          refine wp_iload dX12_does_285 rfl ?_
          refine wp_iast dX12_does_287 sh381 q7.2.1 ?_
          refine wp_iconst dX12_does_288 (by decide) ?_
          refine wp_istore dX12_does_289 (by decide) rfl ?_
          exact wp_loc (L2 := [some (vR 369), some (vI x1), none, none, none, some (vI (V6 381 (Int.toNat (w32 ((w32 (x1 + 85)) + x3))))), some (vI (V7 381 (Int.toNat (w32 (x1 + 84))))), some (vI 0)]) ⟨rfl, ⟨rfl, ⟨rfl, ⟨rfl, ⟨rfl, trivial⟩⟩⟩⟩⟩ q7.2.2
        ·
          refine wp_aload_n dX12_does_158 rfl rfl ?_
          refine wp_iload_n dX12_does_159 rfl rfl ?_
          refine wp_iload_n dX12_does_160 rfl rfl ?_
          refine wp_iload dX12_does_161 rfl ?_
          refine wp_callV (S := []) (as := [vI x1, vI x3, vI x4]) dX12_does_163 lX12_400 (((((h.1 c1).1 c2).1 c3).2 c4)) (by omega) sh369 rfl rfl (Nat.le_of_ble_eq_true rfl) ⟨Nat.le_refl _, Nat.le_refl _⟩ ?_
          rintro _ _ V8 ⟨rfl, z8, rfl, q8⟩
          show Wp _ _ _ _ _ 166 _ [vI z8] _ _ _ _ _
          refine wp_istore dX12_does_166 (by decide) rfl ?_
          refine wp_aload_n dX12_does_168 rfl rfl ?_
          refine wp_iload_n dX12_does_169 rfl rfl ?_
          refine wp_iload_n dX12_does_170 rfl rfl ?_
          refine wp_iload dX12_does_171 rfl ?_
          refine wp_iconst dX12_does_173 (by decide) ?_
          refine wp_iadd dX12_does_174 ?_
          refine wp_callV (S := []) (as := [vI x1, vI x3, vI (w32 (x4 + 1))]) dX12_does_175 lX12_400 (q8) (by omega) sh369 rfl rfl (Nat.le_of_ble_eq_true rfl) ⟨Nat.le_refl _, Nat.le_refl _⟩ ?_
          rintro _ _ V9 ⟨rfl, z9, rfl, q9⟩
          show Wp _ _ _ _ _ 178 _ [vI z9] _ _ _ _ _
          refine wp_istore dX12_does_178 (by decide) rfl ?_
          refine wp_aload_n dX12_does_180 rfl rfl ?_
          refine wp_getR (b := 381) dX12_does_181 fX12_93 rfl sh369 (by decide) rfl ?_
          refine wp_iload_n dX12_does_184 rfl rfl ?_
          refine wp_bipush dX12_does_185 (by decide) ?_
          refine wp_iadd dX12_does_187 ?_
          refine wp_bipush dX12_does_188 (by decide) ?_
          refine wp_iload_n dX12_does_190 rfl rfl ?_
          refine wp_imul dX12_does_191 ?_
          refine wp_iadd dX12_does_192 ?_
          refine wp_iload dX12_does_193 rfl ?_
          refine wp_iadd dX12_does_195 ?_
          refine wp_iload dX12_does_196 rfl ?_
          refine wp_iconst dX12_does_198 (by decide) ?_
          refine wp_iadd dX12_does_199 ?_
          refine wp_iast dX12_does_200 sh381 q9.1 ?_
          refine wp_aload_n dX12_does_201 rfl rfl ?_
          refine wp_getR (b := 381) dX12_does_202 fX12_93 rfl sh369 (by decide) rfl ?_
          refine wp_iload_n dX12_does_205 rfl rfl ?_
          refine wp_bipush dX12_does_206 (by decide) ?_
          refine wp_iadd dX12_does_208 ?_
          refine wp_bipush dX12_does_209 (by decide) ?_
          refine wp_iload_n dX12_does_211 rfl rfl ?_
          refine wp_imul dX12_does_212 ?_
          refine wp_iadd dX12_does_213 ?_
          refine wp_iload dX12_does_214 rfl ?_
          refine wp_iadd dX12_does_216 ?_
          refine wp_iload dX12_does_217 rfl ?_
          refine wp_iast dX12_does_219 sh381 q9.2.1 ?_
          refine wp_goto (tgt := 342) dX12_does_220 rfl ?_
          exact wp_return dX12_does_342 rfl ⟨rfl, rfl⟩ ⟨rfl, q9.2.2⟩
      ·
        refine wp_aload_n dX12_does_62 rfl rfl ?_
        refine wp_iload_n dX12_does_63 rfl rfl ?_
        refine wp_iload_n dX12_does_64 rfl rfl ?_
        refine wp_inlV (d' := d) (S := []) (as := [vI x1, vI x3]) dX12_does_65 lX12_292 (by omega) sh369 rfl rfl (Nat.le_of_ble_eq_true rfl) ⟨Nat.le_refl _, Nat.le_refl _⟩ (Mt.of2 (L := [some (vR 369), some (vI x1), some (vI x3)]) pnX12 rfl rfl ?_)
        refine wp_aload_n dX12_manyOf_0 rfl rfl ?_
        refine wp_getR (b := 381) dX12_manyOf_1 fX12_93 rfl sh369 (by decide) rfl ?_
        refine wp_iload_n dX12_manyOf_4 rfl rfl ?_
        refine wp_iload_n dX12_manyOf_5 rfl rfl ?_
        refine wp_iadd dX12_manyOf_6 ?_
        refine wp_iald dX12_manyOf_7 sh381 (((h.1 c1).1 c2).2 c3).1 ?_
        refine wp_ireturn dX12_manyOf_8 rfl ⟨rfl, rfl⟩ ?_
        show Wp _ _ _ _ _ 68 _ [vI (V 381 (Int.toNat (w32 (x1 + x3))))] _ _ _ _ _
        refine wp_istore dX12_does_68 (by decide) rfl ?_
        refine wp_iconst dX12_does_70 (by decide) ?_
        refine wp_istore dX12_does_71 (by decide) rfl ?_
        exact wp_loc (L2 := [some (vR 369), some (vI x1), none, some (vI x3), none, some (vI (V 381 (Int.toNat (w32 (x1 + x3))))), some (vI 0), none]) ⟨rfl, ⟨rfl, ⟨rfl, ⟨rfl, ⟨rfl, trivial⟩⟩⟩⟩⟩ (((h.1 c1).1 c2).2 c3).2
    ·
      refine wp_aload_n dX12_does_42 rfl rfl ?_
      refine wp_getR (b := 381) dX12_does_43 fX12_93 rfl sh369 (by decide) rfl ?_
      refine wp_iload_n dX12_does_46 rfl rfl ?_
      refine wp_iload_n dX12_does_47 rfl rfl ?_
      refine wp_iadd dX12_does_48 ?_
      refine wp_dup2 dX12_does_49 rfl rfl ?_
      refine wp_iald dX12_does_50 sh381 ((h.1 c1).2 c2).1 ?_
      refine wp_iconst dX12_does_51 (by decide) ?_
      refine wp_isub dX12_does_52 ?_
      refine wp_iast dX12_does_53 sh381 ((h.1 c1).2 c2).2.1 ?_
      refine wp_goto (tgt := 342) dX12_does_54 rfl ?_
      exact wp_return dX12_does_342 rfl ⟨rfl, rfl⟩ ⟨rfl, ((h.1 c1).2 c2).2.2⟩
  ·
    refine wp_aload_n dX12_does_4 rfl rfl ?_
    refine wp_getR (b := 381) dX12_does_5 fX12_93 rfl sh369 (by decide) rfl ?_
    refine wp_iload_n dX12_does_8 rfl rfl ?_
    refine wp_iload_n dX12_does_9 rfl rfl ?_
    refine wp_aload_n dX12_does_10 rfl rfl ?_
    refine wp_iload_n dX12_does_11 rfl rfl ?_
    refine wp_iload_n dX12_does_12 rfl rfl ?_
    refine wp_inlV (d' := d) (S := [vI x3, vI x1, vR 381]) (as := [vI x1, vI x3]) dX12_does_13 lX12_292 (by omega) sh369 rfl rfl (Nat.le_of_ble_eq_true rfl) ⟨Nat.le_refl _, Nat.le_refl _⟩ (Mt.of2 (L := [some (vR 369), some (vI x1), some (vI x3)]) pnX12 rfl rfl ?_)
    refine wp_aload_n dX12_manyOf_0 rfl rfl ?_
    refine wp_getR (b := 381) dX12_manyOf_1 fX12_93 rfl sh369 (by decide) rfl ?_
    refine wp_iload_n dX12_manyOf_4 rfl rfl ?_
    refine wp_iload_n dX12_manyOf_5 rfl rfl ?_
    refine wp_iadd dX12_manyOf_6 ?_
    refine wp_iald dX12_manyOf_7 sh381 (h.2 c1).1 ?_
    refine wp_ireturn dX12_manyOf_8 rfl ⟨rfl, rfl⟩ ?_
    show Wp _ _ _ _ _ 16 _ [vI (V 381 (Int.toNat (w32 (x1 + x3)))), vI x3, vI x1, vR 381] _ _ _ _ _
    refine wp_inlS (d' := d) (S := [vR 381]) (as := [vI x1, vI x3, vI (V 381 (Int.toNat (w32 (x1 + x3))))]) dX12_does_16 lX12_307 (by omega) rfl rfl (Nat.le_of_ble_eq_true rfl) ⟨Nat.le_refl _, Nat.le_refl _⟩ (Mt.of2 (L := [some (vI x1), some (vI x3), some (vI (V 381 (Int.toNat (w32 (x1 + x3)))))]) pnX12 rfl rfl ?_)
    refine wp_iload_n dX12_numberAt_0 rfl rfl ?_
    refine wp_iconst dX12_numberAt_1 (by decide) ?_
    refine wp_iadd dX12_numberAt_2 ?_
    refine wp_bipush dX12_numberAt_3 (by decide) ?_
    refine wp_iload_n dX12_numberAt_5 rfl rfl ?_
    refine wp_imul dX12_numberAt_6 ?_
    refine wp_iadd dX12_numberAt_7 ?_
    refine wp_iload_n dX12_numberAt_8 rfl rfl ?_
    refine wp_iadd dX12_numberAt_9 ?_
    refine wp_ireturn dX12_numberAt_10 rfl ⟨rfl, rfl⟩ ?_
    show Wp _ _ _ _ _ 19 _ [vI (w32 ((w32 ((w32 (x1 + 4)) + (w32 (20 * x3)))) + (V 381 (Int.toNat (w32 (x1 + x3)))))), vR 381] _ _ _ _ _
    refine wp_iload dX12_does_19 rfl ?_
    refine wp_iast dX12_does_21 sh381 (h.2 c1).2.1 ?_
    refine wp_aload_n dX12_does_22 rfl rfl ?_
    refine wp_getR (b := 381) dX12_does_23 fX12_93 rfl sh369 (by decide) rfl ?_
    refine wp_iload_n dX12_does_26 rfl rfl ?_
    refine wp_iload_n dX12_does_27 rfl rfl ?_
    refine wp_iadd dX12_does_28 ?_
    refine wp_dup2 dX12_does_29 rfl rfl ?_
    refine wp_iald dX12_does_30 sh381 (h.2 c1).2.2.1 ?_
    refine wp_iconst dX12_does_31 (by decide) ?_
    refine wp_iadd dX12_does_32 ?_
    refine wp_iast dX12_does_33 sh381 (h.2 c1).2.2.2.1 ?_
    refine wp_goto (tgt := 342) dX12_does_34 rfl ?_
    exact wp_return dX12_does_342 rfl ⟨rfl, rfl⟩ ⟨rfl, (h.2 c1).2.2.2.2⟩
set_option maxHeartbeats 4000000 in
set_option maxRecDepth 10000 in
theorem sX12_does_291 {K : KK} {d : Nat} {V : Mem} {Q : Option AV → Mem → Prop} (x1 : Int) (x5 : Int) (x6 : Int) (x7 : Int) (h : ((x5 ≤ x7 → (((0 : Int) ≤ (w32 (x1 + 84)) ∧ (w32 (x1 + 84)) < (4532 : Nat)) ∧ (((0 : Int) ≤ (w32 (x1 + 84)) ∧ (w32 (x1 + 84)) < (4532 : Nat)) ∧ Q none (upm V 381 (Int.toNat (w32 (x1 + 84))) (w32 ((V 381 (Int.toNat (w32 (x1 + 84)))) + 1)))))) ∧ (¬ (x5 ≤ x7) → (((0 : Int) ≤ x7 ∧ x7 < (10 : Nat)) ∧ (((0 : Int) ≤ (w32 ((w32 ((w32 (x1 + 101)) + (w32 (10 * x6)))) + x7)) ∧ (w32 ((w32 ((w32 (x1 + 101)) + (w32 (10 * x6)))) + x7)) < (4532 : Nat)) ∧ Wf K (d + 1) mX12_does 291 [some (vR 369), some (vI x1), none, none, none, some (vI x5), some (vI x6), some (vI (w32 (x7 + 1)))] [] (upm V 381 (Int.toNat (w32 ((w32 ((w32 (x1 + 101)) + (w32 (10 * x6)))) + x7))) (V 396 (Int.toNat x7))) Q))))) : Wf K (d + 1) mX12_does 291 [some (vR 369), some (vI x1), none, none, none, some (vI x5), some (vI x6), some (vI x7)] [] V Q := by
  refine wp_iload dX12_does_291 rfl ?_
  refine wp_iload dX12_does_293 rfl ?_
  refine wp_icmp_ge (tgt := 329) dX12_does_295 rfl (fun c1 => ?_) (fun c1 => ?_)
  ·
    refine wp_aload_n dX12_does_329 rfl rfl ?_
    refine wp_getR (b := 381) dX12_does_330 fX12_93 rfl sh369 (by decide) rfl ?_
    refine wp_iload_n dX12_does_333 rfl rfl ?_
    refine wp_bipush dX12_does_334 (by decide) ?_
    refine wp_iadd dX12_does_336 ?_
    refine wp_dup2 dX12_does_337 rfl rfl ?_
    refine wp_iald dX12_does_338 sh381 (h.1 c1).1 ?_
    refine wp_iconst dX12_does_339 (by decide) ?_
    refine wp_iadd dX12_does_340 ?_
    refine wp_iast dX12_does_341 sh381 (h.1 c1).2.1 ?_
    exact wp_return dX12_does_342 rfl ⟨rfl, rfl⟩ ⟨rfl, (h.1 c1).2.2⟩
  ·
    refine wp_aload_n dX12_does_298 rfl rfl ?_
    refine wp_getR (b := 381) dX12_does_299 fX12_93 rfl sh369 (by decide) rfl ?_
    refine wp_iload_n dX12_does_302 rfl rfl ?_
    refine wp_bipush dX12_does_303 (by decide) ?_
    refine wp_iadd dX12_does_305 ?_
    refine wp_bipush dX12_does_306 (by decide) ?_
    refine wp_iload dX12_does_308 rfl ?_
    refine wp_imul dX12_does_310 ?_
    refine wp_iadd dX12_does_311 ?_
    refine wp_iload dX12_does_312 rfl ?_
    refine wp_iadd dX12_does_314 ?_
    refine wp_aload_n dX12_does_315 rfl rfl ?_
    refine wp_getR (b := 396) dX12_does_316 fX12_139 rfl sh369 (by decide) rfl ?_
    refine wp_iload dX12_does_319 rfl ?_
    refine wp_iald dX12_does_321 sh396 (h.2 c1).1 ?_
    refine wp_iast dX12_does_322 sh381 (h.2 c1).2.1 ?_
    refine wp_iinc dX12_does_323 rfl rfl ?_
    refine wp_goto (tgt := 291) dX12_does_326 rfl ?_
    exact (h.2 c1).2.2
set_option maxHeartbeats 4000000 in
set_option maxRecDepth 10000 in
theorem sX12_does_73 {K : KK} {d : Nat} {V : Mem} {Q : Option AV → Mem → Prop} (x1 : Int) (x3 : Int) (x5 : Int) (x6 : Int) (h : (((w32 (Int.tdiv x5 2)) ≤ x6 → Q none V) ∧ (¬ ((w32 (Int.tdiv x5 2)) ≤ x6) → (((0 : Int) ≤ (w32 ((w32 ((w32 (x1 + 4)) + (w32 (20 * x3)))) + x6)) ∧ (w32 ((w32 ((w32 (x1 + 4)) + (w32 (20 * x3)))) + x6)) < (4532 : Nat)) ∧ (((0 : Int) ≤ (w32 ((w32 ((w32 (x1 + 4)) + (w32 (20 * x3)))) + (w32 ((w32 (x5 - 1)) - x6)))) ∧ (w32 ((w32 ((w32 (x1 + 4)) + (w32 (20 * x3)))) + (w32 ((w32 (x5 - 1)) - x6)))) < (4532 : Nat)) ∧ (((0 : Int) ≤ (w32 ((w32 ((w32 (x1 + 4)) + (w32 (20 * x3)))) + x6)) ∧ (w32 ((w32 ((w32 (x1 + 4)) + (w32 (20 * x3)))) + x6)) < (4532 : Nat)) ∧ (((0 : Int) ≤ (w32 ((w32 ((w32 (x1 + 4)) + (w32 (20 * x3)))) + (w32 ((w32 (x5 - 1)) - x6)))) ∧ (w32 ((w32 ((w32 (x1 + 4)) + (w32 (20 * x3)))) + (w32 ((w32 (x5 - 1)) - x6)))) < (4532 : Nat)) ∧ Wf K (d + 1) mX12_does 73 [some (vR 369), some (vI x1), none, some (vI x3), none, some (vI x5), some (vI (w32 (x6 + 1))), none] [] (upm (upm V 381 (Int.toNat (w32 ((w32 ((w32 (x1 + 4)) + (w32 (20 * x3)))) + x6))) (V 381 (Int.toNat (w32 ((w32 ((w32 (x1 + 4)) + (w32 (20 * x3)))) + (w32 ((w32 (x5 - 1)) - x6))))))) 381 (Int.toNat (w32 ((w32 ((w32 (x1 + 4)) + (w32 (20 * x3)))) + (w32 ((w32 (x5 - 1)) - x6))))) (V 381 (Int.toNat (w32 ((w32 ((w32 (x1 + 4)) + (w32 (20 * x3)))) + x6))))) Q))))))) : Wf K (d + 1) mX12_does 73 [some (vR 369), some (vI x1), none, some (vI x3), none, some (vI x5), some (vI x6), none] [] V Q := by
  refine wp_iload dX12_does_73 rfl ?_
  refine wp_iload dX12_does_75 rfl ?_
  refine wp_iconst dX12_does_77 (by decide) ?_
  refine wp_idiv dX12_does_78 (by decide) ?_
  refine wp_icmp_ge (tgt := 150) dX12_does_79 rfl (fun c1 => ?_) (fun c1 => ?_)
  ·
    refine wp_goto (tgt := 342) dX12_does_150 rfl ?_
    exact wp_return dX12_does_342 rfl ⟨rfl, rfl⟩ ⟨rfl, (h.1 c1)⟩
  ·
    refine wp_aload_n dX12_does_82 rfl rfl ?_
    refine wp_getR (b := 381) dX12_does_83 fX12_93 rfl sh369 (by decide) rfl ?_
    refine wp_iload_n dX12_does_86 rfl rfl ?_
    refine wp_iload_n dX12_does_87 rfl rfl ?_
    refine wp_iload dX12_does_88 rfl ?_
    refine wp_inlS (d' := d) (S := [vR 381]) (as := [vI x1, vI x3, vI x6]) dX12_does_90 lX12_307 (by omega) rfl rfl (Nat.le_of_ble_eq_true rfl) ⟨Nat.le_refl _, Nat.le_refl _⟩ (Mt.of2 (L := [some (vI x1), some (vI x3), some (vI x6)]) pnX12 rfl rfl ?_)
    refine wp_iload_n dX12_numberAt_0 rfl rfl ?_
    refine wp_iconst dX12_numberAt_1 (by decide) ?_
    refine wp_iadd dX12_numberAt_2 ?_
    refine wp_bipush dX12_numberAt_3 (by decide) ?_
    refine wp_iload_n dX12_numberAt_5 rfl rfl ?_
    refine wp_imul dX12_numberAt_6 ?_
    refine wp_iadd dX12_numberAt_7 ?_
    refine wp_iload_n dX12_numberAt_8 rfl rfl ?_
    refine wp_iadd dX12_numberAt_9 ?_
    refine wp_ireturn dX12_numberAt_10 rfl ⟨rfl, rfl⟩ ?_
    show Wp _ _ _ _ _ 93 _ [vI (w32 ((w32 ((w32 (x1 + 4)) + (w32 (20 * x3)))) + x6)), vR 381] _ _ _ _ _
    refine wp_iald dX12_does_93 sh381 (h.2 c1).1 ?_
    refine wp_istore dX12_does_94 (by decide) rfl ?_
    refine wp_aload_n dX12_does_96 rfl rfl ?_
    refine wp_getR (b := 381) dX12_does_97 fX12_93 rfl sh369 (by decide) rfl ?_
    refine wp_iload_n dX12_does_100 rfl rfl ?_
    refine wp_iload_n dX12_does_101 rfl rfl ?_
    refine wp_iload dX12_does_102 rfl ?_
    refine wp_inlS (d' := d) (S := [vR 381]) (as := [vI x1, vI x3, vI x6]) dX12_does_104 lX12_307 (by omega) rfl rfl (Nat.le_of_ble_eq_true rfl) ⟨Nat.le_refl _, Nat.le_refl _⟩ (Mt.of2 (L := [some (vI x1), some (vI x3), some (vI x6)]) pnX12 rfl rfl ?_)
    refine wp_iload_n dX12_numberAt_0 rfl rfl ?_
    refine wp_iconst dX12_numberAt_1 (by decide) ?_
    refine wp_iadd dX12_numberAt_2 ?_
    refine wp_bipush dX12_numberAt_3 (by decide) ?_
    refine wp_iload_n dX12_numberAt_5 rfl rfl ?_
    refine wp_imul dX12_numberAt_6 ?_
    refine wp_iadd dX12_numberAt_7 ?_
    refine wp_iload_n dX12_numberAt_8 rfl rfl ?_
    refine wp_iadd dX12_numberAt_9 ?_
    refine wp_ireturn dX12_numberAt_10 rfl ⟨rfl, rfl⟩ ?_
    show Wp _ _ _ _ _ 107 _ [vI (w32 ((w32 ((w32 (x1 + 4)) + (w32 (20 * x3)))) + x6)), vR 381] _ _ _ _ _
    refine wp_aload_n dX12_does_107 rfl rfl ?_
    refine wp_getR (b := 381) dX12_does_108 fX12_93 rfl sh369 (by decide) rfl ?_
    refine wp_iload_n dX12_does_111 rfl rfl ?_
    refine wp_iload_n dX12_does_112 rfl rfl ?_
    refine wp_iload dX12_does_113 rfl ?_
    refine wp_iconst dX12_does_115 (by decide) ?_
    refine wp_isub dX12_does_116 ?_
    refine wp_iload dX12_does_117 rfl ?_
    refine wp_isub dX12_does_119 ?_
    refine wp_inlS (d' := d) (S := [vR 381, vI (w32 ((w32 ((w32 (x1 + 4)) + (w32 (20 * x3)))) + x6)), vR 381]) (as := [vI x1, vI x3, vI (w32 ((w32 (x5 - 1)) - x6))]) dX12_does_120 lX12_307 (by omega) rfl rfl (Nat.le_of_ble_eq_true rfl) ⟨Nat.le_refl _, Nat.le_refl _⟩ (Mt.of2 (L := [some (vI x1), some (vI x3), some (vI (w32 ((w32 (x5 - 1)) - x6)))]) pnX12 rfl rfl ?_)
    refine wp_iload_n dX12_numberAt_0 rfl rfl ?_
    refine wp_iconst dX12_numberAt_1 (by decide) ?_
    refine wp_iadd dX12_numberAt_2 ?_
    refine wp_bipush dX12_numberAt_3 (by decide) ?_
    refine wp_iload_n dX12_numberAt_5 rfl rfl ?_
    refine wp_imul dX12_numberAt_6 ?_
    refine wp_iadd dX12_numberAt_7 ?_
    refine wp_iload_n dX12_numberAt_8 rfl rfl ?_
    refine wp_iadd dX12_numberAt_9 ?_
    refine wp_ireturn dX12_numberAt_10 rfl ⟨rfl, rfl⟩ ?_
    show Wp _ _ _ _ _ 123 _ [vI (w32 ((w32 ((w32 (x1 + 4)) + (w32 (20 * x3)))) + (w32 ((w32 (x5 - 1)) - x6)))), vR 381, vI (w32 ((w32 ((w32 (x1 + 4)) + (w32 (20 * x3)))) + x6)), vR 381] _ _ _ _ _
    refine wp_iald dX12_does_123 sh381 (h.2 c1).2.1 ?_
    refine wp_iast dX12_does_124 sh381 (h.2 c1).2.2.1 ?_
    refine wp_aload_n dX12_does_125 rfl rfl ?_
    refine wp_getR (b := 381) dX12_does_126 fX12_93 rfl sh369 (by decide) rfl ?_
    refine wp_iload_n dX12_does_129 rfl rfl ?_
    refine wp_iload_n dX12_does_130 rfl rfl ?_
    refine wp_iload dX12_does_131 rfl ?_
    refine wp_iconst dX12_does_133 (by decide) ?_
    refine wp_isub dX12_does_134 ?_
    refine wp_iload dX12_does_135 rfl ?_
    refine wp_isub dX12_does_137 ?_
    refine wp_inlS (d' := d) (S := [vR 381]) (as := [vI x1, vI x3, vI (w32 ((w32 (x5 - 1)) - x6))]) dX12_does_138 lX12_307 (by omega) rfl rfl (Nat.le_of_ble_eq_true rfl) ⟨Nat.le_refl _, Nat.le_refl _⟩ (Mt.of2 (L := [some (vI x1), some (vI x3), some (vI (w32 ((w32 (x5 - 1)) - x6)))]) pnX12 rfl rfl ?_)
    refine wp_iload_n dX12_numberAt_0 rfl rfl ?_
    refine wp_iconst dX12_numberAt_1 (by decide) ?_
    refine wp_iadd dX12_numberAt_2 ?_
    refine wp_bipush dX12_numberAt_3 (by decide) ?_
    refine wp_iload_n dX12_numberAt_5 rfl rfl ?_
    refine wp_imul dX12_numberAt_6 ?_
    refine wp_iadd dX12_numberAt_7 ?_
    refine wp_iload_n dX12_numberAt_8 rfl rfl ?_
    refine wp_iadd dX12_numberAt_9 ?_
    refine wp_ireturn dX12_numberAt_10 rfl ⟨rfl, rfl⟩ ?_
    show Wp _ _ _ _ _ 141 _ [vI (w32 ((w32 ((w32 (x1 + 4)) + (w32 (20 * x3)))) + (w32 ((w32 (x5 - 1)) - x6)))), vR 381] _ _ _ _ _
    refine wp_iload dX12_does_141 rfl ?_
    refine wp_iast dX12_does_143 sh381 (h.2 c1).2.2.2.1 ?_
    refine wp_iinc dX12_does_144 rfl rfl ?_
    refine wp_goto (tgt := 73) dX12_does_147 rfl ?_
    exact wp_loc (L2 := [some (vR 369), some (vI x1), none, some (vI x3), none, some (vI x5), some (vI (w32 (x6 + 1))), none]) ⟨rfl, ⟨rfl, ⟨rfl, ⟨rfl, ⟨rfl, trivial⟩⟩⟩⟩⟩ (h.2 c1).2.2.2.2
set_option maxHeartbeats 4000000 in
set_option maxRecDepth 10000 in
theorem sX12_isDone {K : KK} {d : Nat} {V : Mem} {Q : Option AV → Mem → Prop} (x1 : Int) (x2 : Int) (x3 : Int) (h : Mf K d mX12_mayDo [vR 369, vI 0, vI x1, vI x2, vI x3] V (fun r V1 => ∃ z1, r = some (vI z1) ∧ ((¬ z1 = 0 → Mf K d mX12_keeps [vR 369] V1 (fun r V3 => r = none ∧ Mf K d mX12_does [vR 369, vI 0, vI x1, vI x2, vI x3] V3 (fun r V4 => r = none ∧ Q (some (vI 1)) V4))) ∧ (z1 = 0 → Q (some (vI 0)) V1)))) : Mf K (d + 1) mX12_isDone [vR 369, vI x1, vI x2, vI x3] V Q := by
  refine Mt.of2 (L := [some (vR 369), some (vI x1), some (vI x2), some (vI x3)]) pnX12 rfl rfl ?_
  refine wp_aload_n dX12_isDone_0 rfl rfl ?_
  refine wp_iconst dX12_isDone_1 (by decide) ?_
  refine wp_iload_n dX12_isDone_2 rfl rfl ?_
  refine wp_iload_n dX12_isDone_3 rfl rfl ?_
  refine wp_iload_n dX12_isDone_4 rfl rfl ?_
  refine wp_callV (S := []) (as := [vI 0, vI x1, vI x2, vI x3]) dX12_isDone_5 lX12_403 (h) (by omega) sh369 rfl rfl (Nat.le_of_ble_eq_true rfl) ⟨Nat.le_refl _, Nat.le_refl _⟩ ?_
  rintro _ _ V1 ⟨rfl, z1, rfl, q1⟩
  show Wp _ _ _ _ _ 8 _ [vI z1] _ _ _ _ _
  refine wp_if_ne (tgt := 13) dX12_isDone_8 rfl (fun c2 => ?_) (fun c2 => ?_)
  ·
    refine wp_aload_n dX12_isDone_13 rfl rfl ?_
    refine wp_callV (S := []) (as := []) dX12_isDone_14 lX12_407 ((q1.1 c2)) (by omega) sh369 rfl rfl (Nat.le_of_ble_eq_true rfl) ⟨Nat.le_refl _, Nat.le_refl _⟩ ?_
    rintro _ _ V3 ⟨rfl, rfl, q3⟩
    show Wp _ _ _ _ _ 17 _ [] _ _ _ _ _
    refine wp_aload_n dX12_isDone_17 rfl rfl ?_
    refine wp_iconst dX12_isDone_18 (by decide) ?_
    refine wp_iload_n dX12_isDone_19 rfl rfl ?_
    refine wp_iload_n dX12_isDone_20 rfl rfl ?_
    refine wp_iload_n dX12_isDone_21 rfl rfl ?_
    refine wp_callV (S := []) (as := [vI 0, vI x1, vI x2, vI x3]) dX12_isDone_22 lX12_410 (q3) (by omega) sh369 rfl rfl (Nat.le_of_ble_eq_true rfl) ⟨Nat.le_refl _, Nat.le_refl _⟩ ?_
    rintro _ _ V4 ⟨rfl, rfl, q4⟩
    show Wp _ _ _ _ _ 25 _ [] _ _ _ _ _
    refine wp_iconst dX12_isDone_25 (by decide) ?_
    exact wp_zreturn dX12_isDone_26 rfl ⟨rfl, rfl⟩ (by decide) ⟨rfl, q4⟩
  ·
    refine wp_iconst dX12_isDone_11 (by decide) ?_
    exact wp_zreturn dX12_isDone_12 rfl ⟨rfl, rfl⟩ (by decide) ⟨rfl, (q1.2 c2)⟩
set_option maxHeartbeats 4000000 in
set_option maxRecDepth 10000 in
theorem sX12_append {K : KK} {d : Nat} {V : Mem} {Q : Option AV → Mem → Prop} (x1 : Int) (x2 : Int) (h : Mf K d mX12_isRow [vR 369, vI x1] (upm V 369 0 0) (fun r V1 => ∃ z1, r = some (vI z1) ∧ ((z1 = 0 → Q (some (vI (-1))) V1) ∧ (¬ (z1 = 0) → Mf K d mX12_within [vI x2, vI 0, vI 99] V1 (fun r V3 => ∃ z3, r = some (vI z3) ∧ ((z3 = 0 → Q (some (vI (-1))) V3) ∧ (¬ (z3 = 0) → Mf K d mX12_isDone [vR 369, vI 0, vI x1, vI x2] V3 (fun r V5 => ∃ z5, r = some (vI z5) ∧ ((z5 = 0 → Q (some (vI (-1))) V5) ∧ (¬ (z5 = 0) → (((0 : Int) ≤ (w32 (0 + x1)) ∧ (w32 (0 + x1)) < (4532 : Nat)) ∧ Q (some (vI (V5 381 (Int.toNat (w32 (0 + x1)))))) V5))))))))))) : Mf K (d + 1) mX12_append [vR 369, vI x1, vI x2] V Q := by
  refine Mt.of2 (L := [some (vR 369), some (vI x1), some (vI x2)]) pnX12 rfl rfl ?_
  refine wp_aload_n dX12_append_0 rfl rfl ?_
  refine wp_iconst dX12_append_1 (by decide) ?_
  refine wp_putI dX12_append_2 fwX12_1 rfl sh369 (by decide) ?_
  refine wp_aload_n dX12_append_5 rfl rfl ?_
  refine wp_iload_n dX12_append_6 rfl rfl ?_
  refine wp_callV (S := []) (as := [vI x1]) dX12_append_7 lX12_289 (h) (by omega) sh369 rfl rfl (Nat.le_of_ble_eq_true rfl) ⟨Nat.le_refl _, Nat.le_refl _⟩ ?_
  rintro _ _ V1 ⟨rfl, z1, rfl, q1⟩
  show Wp _ _ _ _ _ 10 _ [vI z1] _ _ _ _ _
  refine wp_if_eq (tgt := 42) dX12_append_10 rfl (fun c2 => ?_) (fun c2 => ?_)
  ·
    refine wp_iconst dX12_append_42 (by decide) ?_
    exact wp_ireturn dX12_append_43 rfl ⟨rfl, rfl⟩ ⟨rfl, (q1.1 c2)⟩
  ·
    refine wp_iload_n dX12_append_13 rfl rfl ?_
    refine wp_iconst dX12_append_14 (by decide) ?_
    refine wp_bipush dX12_append_15 (by decide) ?_
    refine wp_callS (S := []) (as := [vI x2, vI 0, vI 99]) dX12_append_17 lX12_358 ((q1.2 c2)) (by omega) rfl rfl (Nat.le_of_ble_eq_true rfl) ⟨Nat.le_refl _, Nat.le_refl _⟩ ?_
    rintro _ _ V3 ⟨rfl, z3, rfl, q3⟩
    show Wp _ _ _ _ _ 20 _ [vI z3] _ _ _ _ _
    refine wp_if_eq (tgt := 42) dX12_append_20 rfl (fun c4 => ?_) (fun c4 => ?_)
    ·
      refine wp_iconst dX12_append_42 (by decide) ?_
      exact wp_ireturn dX12_append_43 rfl ⟨rfl, rfl⟩ ⟨rfl, (q3.1 c4)⟩
    ·
      refine wp_aload_n dX12_append_23 rfl rfl ?_
      refine wp_iconst dX12_append_24 (by decide) ?_
      refine wp_iload_n dX12_append_25 rfl rfl ?_
      refine wp_iload_n dX12_append_26 rfl rfl ?_
      refine wp_callV (S := []) (as := [vI 0, vI x1, vI x2]) dX12_append_27 lX12_414 ((q3.2 c4)) (by omega) sh369 rfl rfl (Nat.le_of_ble_eq_true rfl) ⟨Nat.le_refl _, Nat.le_refl _⟩ ?_
      rintro _ _ V5 ⟨rfl, z5, rfl, q5⟩
      show Wp _ _ _ _ _ 30 _ [vI z5] _ _ _ _ _
      refine wp_if_eq (tgt := 42) dX12_append_30 rfl (fun c6 => ?_) (fun c6 => ?_)
      ·
        refine wp_iconst dX12_append_42 (by decide) ?_
        exact wp_ireturn dX12_append_43 rfl ⟨rfl, rfl⟩ ⟨rfl, (q5.1 c6)⟩
      ·
        refine wp_aload_n dX12_append_33 rfl rfl ?_
        refine wp_iconst dX12_append_34 (by decide) ?_
        refine wp_iload_n dX12_append_35 rfl rfl ?_
        refine wp_inlV (d' := d) (S := []) (as := [vI 0, vI x1]) dX12_append_36 lX12_292 (by omega) sh369 rfl rfl (Nat.le_of_ble_eq_true rfl) ⟨Nat.le_refl _, Nat.le_refl _⟩ (Mt.of2 (L := [some (vR 369), some (vI 0), some (vI x1)]) pnX12 rfl rfl ?_)
        refine wp_aload_n dX12_manyOf_0 rfl rfl ?_
        refine wp_getR (b := 381) dX12_manyOf_1 fX12_93 rfl sh369 (by decide) rfl ?_
        refine wp_iload_n dX12_manyOf_4 rfl rfl ?_
        refine wp_iload_n dX12_manyOf_5 rfl rfl ?_
        refine wp_iadd dX12_manyOf_6 ?_
        refine wp_iald dX12_manyOf_7 sh381 (q5.2 c6).1 ?_
        refine wp_ireturn dX12_manyOf_8 rfl ⟨rfl, rfl⟩ ?_
        show Wp _ _ _ _ _ 39 _ [vI (V5 381 (Int.toNat (w32 (0 + x1))))] _ _ _ _ _
        refine wp_goto (tgt := 43) dX12_append_39 rfl ?_
        exact wp_ireturn dX12_append_43 rfl ⟨rfl, rfl⟩ ⟨rfl, (q5.2 c6).2⟩
set_option maxHeartbeats 4000000 in
set_option maxRecDepth 10000 in
theorem sX12_cut {K : KK} {d : Nat} {V : Mem} {Q : Option AV → Mem → Prop} (x1 : Int) (h : Mf K d mX12_isRow [vR 369, vI x1] (upm V 369 0 0) (fun r V1 => ∃ z1, r = some (vI z1) ∧ ((z1 = 0 → Q (some (vI (-1))) V1) ∧ (¬ (z1 = 0) → Mf K d mX12_isDone [vR 369, vI 1, vI x1, vI 0] V1 (fun r V3 => ∃ z3, r = some (vI z3) ∧ ((z3 = 0 → Q (some (vI (-1))) V3) ∧ (¬ (z3 = 0) → (((0 : Int) ≤ (w32 (0 + x1)) ∧ (w32 (0 + x1)) < (4532 : Nat)) ∧ (((0 : Int) ≤ (w32 ((w32 ((w32 (0 + 4)) + (w32 (20 * x1)))) + (V3 381 (Int.toNat (w32 (0 + x1)))))) ∧ (w32 ((w32 ((w32 (0 + 4)) + (w32 (20 * x1)))) + (V3 381 (Int.toNat (w32 (0 + x1)))))) < (4532 : Nat)) ∧ Q (some (vI (V3 381 (Int.toNat (w32 ((w32 ((w32 (0 + 4)) + (w32 (20 * x1)))) + (V3 381 (Int.toNat (w32 (0 + x1)))))))))) V3))))))))) : Mf K (d + 1) mX12_cut [vR 369, vI x1] V Q := by
  refine Mt.of2 (L := [some (vR 369), some (vI x1)]) pnX12 rfl rfl ?_
  refine wp_aload_n dX12_cut_0 rfl rfl ?_
  refine wp_iconst dX12_cut_1 (by decide) ?_
  refine wp_putI dX12_cut_2 fwX12_1 rfl sh369 (by decide) ?_
  refine wp_aload_n dX12_cut_5 rfl rfl ?_
  refine wp_iload_n dX12_cut_6 rfl rfl ?_
  refine wp_callV (S := []) (as := [vI x1]) dX12_cut_7 lX12_289 (h) (by omega) sh369 rfl rfl (Nat.le_of_ble_eq_true rfl) ⟨Nat.le_refl _, Nat.le_refl _⟩ ?_
  rintro _ _ V1 ⟨rfl, z1, rfl, q1⟩
  show Wp _ _ _ _ _ 10 _ [vI z1] _ _ _ _ _
  refine wp_if_eq (tgt := 42) dX12_cut_10 rfl (fun c2 => ?_) (fun c2 => ?_)
  ·
    refine wp_iconst dX12_cut_42 (by decide) ?_
    exact wp_ireturn dX12_cut_43 rfl ⟨rfl, rfl⟩ ⟨rfl, (q1.1 c2)⟩
  ·
    refine wp_aload_n dX12_cut_13 rfl rfl ?_
    refine wp_iconst dX12_cut_14 (by decide) ?_
    refine wp_iload_n dX12_cut_15 rfl rfl ?_
    refine wp_iconst dX12_cut_16 (by decide) ?_
    refine wp_callV (S := []) (as := [vI 1, vI x1, vI 0]) dX12_cut_17 lX12_414 ((q1.2 c2)) (by omega) sh369 rfl rfl (Nat.le_of_ble_eq_true rfl) ⟨Nat.le_refl _, Nat.le_refl _⟩ ?_
    rintro _ _ V3 ⟨rfl, z3, rfl, q3⟩
    show Wp _ _ _ _ _ 20 _ [vI z3] _ _ _ _ _
    refine wp_if_eq (tgt := 42) dX12_cut_20 rfl (fun c4 => ?_) (fun c4 => ?_)
    ·
      refine wp_iconst dX12_cut_42 (by decide) ?_
      exact wp_ireturn dX12_cut_43 rfl ⟨rfl, rfl⟩ ⟨rfl, (q3.1 c4)⟩
    ·
      refine wp_aload_n dX12_cut_23 rfl rfl ?_
      refine wp_getR (b := 381) dX12_cut_24 fX12_93 rfl sh369 (by decide) rfl ?_
      refine wp_iconst dX12_cut_27 (by decide) ?_
      refine wp_iload_n dX12_cut_28 rfl rfl ?_
      refine wp_aload_n dX12_cut_29 rfl rfl ?_
      refine wp_iconst dX12_cut_30 (by decide) ?_
      refine wp_iload_n dX12_cut_31 rfl rfl ?_
      refine wp_inlV (d' := d) (S := [vI x1, vI 0, vR 381]) (as := [vI 0, vI x1]) dX12_cut_32 lX12_292 (by omega) sh369 rfl rfl (Nat.le_of_ble_eq_true rfl) ⟨Nat.le_refl _, Nat.le_refl _⟩ (Mt.of2 (L := [some (vR 369), some (vI 0), some (vI x1)]) pnX12 rfl rfl ?_)
      refine wp_aload_n dX12_manyOf_0 rfl rfl ?_
      refine wp_getR (b := 381) dX12_manyOf_1 fX12_93 rfl sh369 (by decide) rfl ?_
      refine wp_iload_n dX12_manyOf_4 rfl rfl ?_
      refine wp_iload_n dX12_manyOf_5 rfl rfl ?_
      refine wp_iadd dX12_manyOf_6 ?_
      refine wp_iald dX12_manyOf_7 sh381 (q3.2 c4).1 ?_
      refine wp_ireturn dX12_manyOf_8 rfl ⟨rfl, rfl⟩ ?_
      show Wp _ _ _ _ _ 35 _ [vI (V3 381 (Int.toNat (w32 (0 + x1)))), vI x1, vI 0, vR 381] _ _ _ _ _
      refine wp_inlS (d' := d) (S := [vR 381]) (as := [vI 0, vI x1, vI (V3 381 (Int.toNat (w32 (0 + x1))))]) dX12_cut_35 lX12_307 (by omega) rfl rfl (Nat.le_of_ble_eq_true rfl) ⟨Nat.le_refl _, Nat.le_refl _⟩ (Mt.of2 (L := [some (vI 0), some (vI x1), some (vI (V3 381 (Int.toNat (w32 (0 + x1)))))]) pnX12 rfl rfl ?_)
      refine wp_iload_n dX12_numberAt_0 rfl rfl ?_
      refine wp_iconst dX12_numberAt_1 (by decide) ?_
      refine wp_iadd dX12_numberAt_2 ?_
      refine wp_bipush dX12_numberAt_3 (by decide) ?_
      refine wp_iload_n dX12_numberAt_5 rfl rfl ?_
      refine wp_imul dX12_numberAt_6 ?_
      refine wp_iadd dX12_numberAt_7 ?_
      refine wp_iload_n dX12_numberAt_8 rfl rfl ?_
      refine wp_iadd dX12_numberAt_9 ?_
      refine wp_ireturn dX12_numberAt_10 rfl ⟨rfl, rfl⟩ ?_
      show Wp _ _ _ _ _ 38 _ [vI (w32 ((w32 ((w32 (0 + 4)) + (w32 (20 * x1)))) + (V3 381 (Int.toNat (w32 (0 + x1)))))), vR 381] _ _ _ _ _
      refine wp_iald dX12_cut_38 sh381 (q3.2 c4).2.1 ?_
      refine wp_goto (tgt := 43) dX12_cut_39 rfl ?_
      exact wp_ireturn dX12_cut_43 rfl ⟨rfl, rfl⟩ ⟨rfl, (q3.2 c4).2.2⟩
set_option maxHeartbeats 4000000 in
set_option maxRecDepth 10000 in
theorem sX12_turn {K : KK} {d : Nat} {V : Mem} {Q : Option AV → Mem → Prop} (x1 : Int) (h : Mf K d mX12_isRow [vR 369, vI x1] (upm V 369 0 0) (fun r V1 => ∃ z1, r = some (vI z1) ∧ ((z1 = 0 → Q (some (vI 0)) V1) ∧ (¬ (z1 = 0) → Mf K d mX12_isDone [vR 369, vI 2, vI x1, vI 0] V1 (fun r V3 => ∃ z3, r = some (vI z3) ∧ ((z3 = 0 → Q (some (vI 0)) V3) ∧ (¬ (z3 = 0) → Q (some (vI 1)) V3))))))) : Mf K (d + 1) mX12_turn [vR 369, vI x1] V Q := by
  refine Mt.of2 (L := [some (vR 369), some (vI x1)]) pnX12 rfl rfl ?_
  refine wp_aload_n dX12_turn_0 rfl rfl ?_
  refine wp_iconst dX12_turn_1 (by decide) ?_
  refine wp_putI dX12_turn_2 fwX12_1 rfl sh369 (by decide) ?_
  refine wp_aload_n dX12_turn_5 rfl rfl ?_
  refine wp_iload_n dX12_turn_6 rfl rfl ?_
  refine wp_callV (S := []) (as := [vI x1]) dX12_turn_7 lX12_289 (h) (by omega) sh369 rfl rfl (Nat.le_of_ble_eq_true rfl) ⟨Nat.le_refl _, Nat.le_refl _⟩ ?_
  rintro _ _ V1 ⟨rfl, z1, rfl, q1⟩
  show Wp _ _ _ _ _ 10 _ [vI z1] _ _ _ _ _
  refine wp_if_eq (tgt := 27) dX12_turn_10 rfl (fun c2 => ?_) (fun c2 => ?_)
  ·
    refine wp_iconst dX12_turn_27 (by decide) ?_
    exact wp_zreturn dX12_turn_28 rfl ⟨rfl, rfl⟩ (by decide) ⟨rfl, (q1.1 c2)⟩
  ·
    refine wp_aload_n dX12_turn_13 rfl rfl ?_
    refine wp_iconst dX12_turn_14 (by decide) ?_
    refine wp_iload_n dX12_turn_15 rfl rfl ?_
    refine wp_iconst dX12_turn_16 (by decide) ?_
    refine wp_callV (S := []) (as := [vI 2, vI x1, vI 0]) dX12_turn_17 lX12_414 ((q1.2 c2)) (by omega) sh369 rfl rfl (Nat.le_of_ble_eq_true rfl) ⟨Nat.le_refl _, Nat.le_refl _⟩ ?_
    rintro _ _ V3 ⟨rfl, z3, rfl, q3⟩
    show Wp _ _ _ _ _ 20 _ [vI z3] _ _ _ _ _
    refine wp_if_eq (tgt := 27) dX12_turn_20 rfl (fun c4 => ?_) (fun c4 => ?_)
    ·
      refine wp_iconst dX12_turn_27 (by decide) ?_
      exact wp_zreturn dX12_turn_28 rfl ⟨rfl, rfl⟩ (by decide) ⟨rfl, (q3.1 c4)⟩
    ·
      refine wp_iconst dX12_turn_23 (by decide) ?_
      refine wp_goto (tgt := 28) dX12_turn_24 rfl ?_
      exact wp_zreturn dX12_turn_28 rfl ⟨rfl, rfl⟩ (by decide) ⟨rfl, (q3.2 c4)⟩
set_option maxHeartbeats 4000000 in
set_option maxRecDepth 10000 in
theorem sX12_cross {K : KK} {d : Nat} {V : Mem} {Q : Option AV → Mem → Prop} (x1 : Int) (x2 : Int) (h : Mf K d mX12_isBraid [vR 369, vI x1] (upm V 369 0 0) (fun r V1 => ∃ z1, r = some (vI z1) ∧ ((z1 = 0 → Q (some (vI 0)) V1) ∧ (¬ (z1 = 0) → ((x2 < 0 → Q (some (vI 0)) V1) ∧ (¬ (x2 < 0) → Mf K d mX12_isDone [vR 369, vI 3, vI x1, vI x2] V1 (fun r V4 => ∃ z4, r = some (vI z4) ∧ ((z4 = 0 → Q (some (vI 0)) V4) ∧ (¬ (z4 = 0) → Q (some (vI 1)) V4))))))))) : Mf K (d + 1) mX12_cross [vR 369, vI x1, vI x2] V Q := by
  refine Mt.of2 (L := [some (vR 369), some (vI x1), some (vI x2)]) pnX12 rfl rfl ?_
  refine wp_aload_n dX12_cross_0 rfl rfl ?_
  refine wp_iconst dX12_cross_1 (by decide) ?_
  refine wp_putI dX12_cross_2 fwX12_1 rfl sh369 (by decide) ?_
  refine wp_aload_n dX12_cross_5 rfl rfl ?_
  refine wp_iload_n dX12_cross_6 rfl rfl ?_
  refine wp_callV (S := []) (as := [vI x1]) dX12_cross_7 lX12_381 (h) (by omega) sh369 rfl rfl (Nat.le_of_ble_eq_true rfl) ⟨Nat.le_refl _, Nat.le_refl _⟩ ?_
  rintro _ _ V1 ⟨rfl, z1, rfl, q1⟩
  show Wp _ _ _ _ _ 10 _ [vI z1] _ _ _ _ _
  refine wp_if_eq (tgt := 31) dX12_cross_10 rfl (fun c2 => ?_) (fun c2 => ?_)
  ·
    refine wp_iconst dX12_cross_31 (by decide) ?_
    exact wp_zreturn dX12_cross_32 rfl ⟨rfl, rfl⟩ (by decide) ⟨rfl, (q1.1 c2)⟩
  ·
    refine wp_iload_n dX12_cross_13 rfl rfl ?_
    refine wp_if_lt (tgt := 31) dX12_cross_14 rfl (fun c3 => ?_) (fun c3 => ?_)
    ·
      refine wp_iconst dX12_cross_31 (by decide) ?_
      exact wp_zreturn dX12_cross_32 rfl ⟨rfl, rfl⟩ (by decide) ⟨rfl, ((q1.2 c2).1 c3)⟩
    ·
      refine wp_aload_n dX12_cross_17 rfl rfl ?_
      refine wp_iconst dX12_cross_18 (by decide) ?_
      refine wp_iload_n dX12_cross_19 rfl rfl ?_
      refine wp_iload_n dX12_cross_20 rfl rfl ?_
      refine wp_callV (S := []) (as := [vI 3, vI x1, vI x2]) dX12_cross_21 lX12_414 (((q1.2 c2).2 c3)) (by omega) sh369 rfl rfl (Nat.le_of_ble_eq_true rfl) ⟨Nat.le_refl _, Nat.le_refl _⟩ ?_
      rintro _ _ V4 ⟨rfl, z4, rfl, q4⟩
      show Wp _ _ _ _ _ 24 _ [vI z4] _ _ _ _ _
      refine wp_if_eq (tgt := 31) dX12_cross_24 rfl (fun c5 => ?_) (fun c5 => ?_)
      ·
        refine wp_iconst dX12_cross_31 (by decide) ?_
        exact wp_zreturn dX12_cross_32 rfl ⟨rfl, rfl⟩ (by decide) ⟨rfl, (q4.1 c5)⟩
      ·
        refine wp_iconst dX12_cross_27 (by decide) ?_
        refine wp_goto (tgt := 32) dX12_cross_28 rfl ?_
        exact wp_zreturn dX12_cross_32 rfl ⟨rfl, rfl⟩ (by decide) ⟨rfl, (q4.2 c5)⟩
set_option maxHeartbeats 4000000 in
set_option maxRecDepth 10000 in
theorem sX12_keep {K : KK} {d : Nat} {V : Mem} {Q : Option AV → Mem → Prop} (x1 : Int) (x2 : Int) (h : Mf K d mX12_isBraid [vR 369, vI x1] (upm V 369 0 0) (fun r V1 => ∃ z1, r = some (vI z1) ∧ ((z1 = 0 → Q (some (vI (-1))) V1) ∧ (¬ (z1 = 0) → Mf K d mX12_isBraid [vR 369, vI x2] V1 (fun r V3 => ∃ z3, r = some (vI z3) ∧ ((z3 = 0 → Q (some (vI (-1))) V3) ∧ (¬ (z3 = 0) → Mf K d mX12_isDone [vR 369, vI 4, vI x1, vI x2] V3 (fun r V5 => ∃ z5, r = some (vI z5) ∧ ((¬ z5 = 0 → (((0 : Int) ≤ (w32 ((w32 (93 + (V5 381 84))) - 1)) ∧ (w32 ((w32 (93 + (V5 381 84))) - 1)) < (4532 : Nat)) ∧ Q (some (vI (w32 (((upm (upm V5 381 (Int.toNat (w32 ((w32 (93 + (V5 381 84))) - 1))) (V5 369 19)) 369 19 (w32 (((upm V5 381 (Int.toNat (w32 ((w32 (93 + (V5 381 84))) - 1))) (V5 369 19)) 369 19) + 1))) 381 84) - 1)))) (upm (upm V5 381 (Int.toNat (w32 ((w32 (93 + (V5 381 84))) - 1))) (V5 369 19)) 369 19 (w32 (((upm V5 381 (Int.toNat (w32 ((w32 (93 + (V5 381 84))) - 1))) (V5 369 19)) 369 19) + 1))))) ∧ (z5 = 0 → Q (some (vI (-1))) V5)))))))))) : Mf K (d + 1) mX12_keep [vR 369, vI x1, vI x2] V Q := by
  refine Mt.of2 (L := [some (vR 369), some (vI x1), some (vI x2)]) pnX12 rfl rfl ?_
  refine wp_aload_n dX12_keep_0 rfl rfl ?_
  refine wp_iconst dX12_keep_1 (by decide) ?_
  refine wp_putI dX12_keep_2 fwX12_1 rfl sh369 (by decide) ?_
  refine wp_aload_n dX12_keep_5 rfl rfl ?_
  refine wp_iload_n dX12_keep_6 rfl rfl ?_
  refine wp_callV (S := []) (as := [vI x1]) dX12_keep_7 lX12_381 (h) (by omega) sh369 rfl rfl (Nat.le_of_ble_eq_true rfl) ⟨Nat.le_refl _, Nat.le_refl _⟩ ?_
  rintro _ _ V1 ⟨rfl, z1, rfl, q1⟩
  show Wp _ _ _ _ _ 10 _ [vI z1] _ _ _ _ _
  refine wp_if_eq (tgt := 31) dX12_keep_10 rfl (fun c2 => ?_) (fun c2 => ?_)
  ·
    refine wp_iconst dX12_keep_31 (by decide) ?_
    exact wp_ireturn dX12_keep_32 rfl ⟨rfl, rfl⟩ ⟨rfl, (q1.1 c2)⟩
  ·
    refine wp_aload_n dX12_keep_13 rfl rfl ?_
    refine wp_iload_n dX12_keep_14 rfl rfl ?_
    refine wp_callV (S := []) (as := [vI x2]) dX12_keep_15 lX12_381 ((q1.2 c2)) (by omega) sh369 rfl rfl (Nat.le_of_ble_eq_true rfl) ⟨Nat.le_refl _, Nat.le_refl _⟩ ?_
    rintro _ _ V3 ⟨rfl, z3, rfl, q3⟩
    show Wp _ _ _ _ _ 18 _ [vI z3] _ _ _ _ _
    refine wp_if_eq (tgt := 31) dX12_keep_18 rfl (fun c4 => ?_) (fun c4 => ?_)
    ·
      refine wp_iconst dX12_keep_31 (by decide) ?_
      exact wp_ireturn dX12_keep_32 rfl ⟨rfl, rfl⟩ ⟨rfl, (q3.1 c4)⟩
    ·
      refine wp_aload_n dX12_keep_21 rfl rfl ?_
      refine wp_iconst dX12_keep_22 (by decide) ?_
      refine wp_iload_n dX12_keep_23 rfl rfl ?_
      refine wp_iload_n dX12_keep_24 rfl rfl ?_
      refine wp_callV (S := []) (as := [vI 4, vI x1, vI x2]) dX12_keep_25 lX12_414 ((q3.2 c4)) (by omega) sh369 rfl rfl (Nat.le_of_ble_eq_true rfl) ⟨Nat.le_refl _, Nat.le_refl _⟩ ?_
      rintro _ _ V5 ⟨rfl, z5, rfl, q5⟩
      show Wp _ _ _ _ _ 28 _ [vI z5] _ _ _ _ _
      refine wp_if_ne (tgt := 33) dX12_keep_28 rfl (fun c6 => ?_) (fun c6 => ?_)
      ·
        refine wp_aload_n dX12_keep_33 rfl rfl ?_
        refine wp_getR (b := 381) dX12_keep_34 fX12_93 rfl sh369 (by decide) rfl ?_
        refine wp_bipush dX12_keep_37 (by decide) ?_
        refine wp_aload_n dX12_keep_39 rfl rfl ?_
        refine wp_getR (b := 381) dX12_keep_40 fX12_93 rfl sh369 (by decide) rfl ?_
        refine wp_bipush dX12_keep_43 (by decide) ?_
        refine wp_iald dX12_keep_45 sh381 (by decide) ?_
        refine wp_iadd dX12_keep_46 ?_
        refine wp_iconst dX12_keep_47 (by decide) ?_
        refine wp_isub dX12_keep_48 ?_
        refine wp_aload_n dX12_keep_49 rfl rfl ?_
        refine wp_getI dX12_keep_50 fX12_279 rfl sh369 (by decide) ?_
        refine wp_iast dX12_keep_53 sh381 (q5.1 c6).1 ?_
        refine wp_aload_n dX12_keep_54 rfl rfl ?_
        refine wp_dup dX12_keep_55 rfl ?_
        refine wp_getI dX12_keep_56 fX12_279 rfl sh369 (by decide) ?_
        refine wp_iconst dX12_keep_59 (by decide) ?_
        refine wp_iadd dX12_keep_60 ?_
        refine wp_putI dX12_keep_61 fwX12_279 rfl sh369 (by decide) ?_
        refine wp_aload_n dX12_keep_64 rfl rfl ?_
        refine wp_getR (b := 381) dX12_keep_65 fX12_93 rfl sh369 (by decide) rfl ?_
        refine wp_bipush dX12_keep_68 (by decide) ?_
        refine wp_iald dX12_keep_70 sh381 (by decide) ?_
        refine wp_iconst dX12_keep_71 (by decide) ?_
        refine wp_isub dX12_keep_72 ?_
        exact wp_ireturn dX12_keep_73 rfl ⟨rfl, rfl⟩ ⟨rfl, (q5.1 c6).2⟩
      ·
        refine wp_iconst dX12_keep_31 (by decide) ?_
        exact wp_ireturn dX12_keep_32 rfl ⟨rfl, rfl⟩ ⟨rfl, (q5.2 c6)⟩
set_option maxHeartbeats 4000000 in
set_option maxRecDepth 10000 in
theorem sX12_undo {K : KK} {d : Nat} {V : Mem} {Q : Option AV → Mem → Prop}  (h : ((¬ ((upm V 369 0 0) 369 18) = 0 → Mf K d mX12_moves [vR 369, vI (w32 (206 * (w32 (5 + ((upm (upm V 369 0 0) 369 18 (w32 (((upm V 369 0 0) 369 18) - 1))) 369 18))))), vI 0, vI 181] (upm (upm V 369 0 0) 369 18 (w32 (((upm V 369 0 0) 369 18) - 1))) (fun r V2 => r = none ∧ Q (some (vI 1)) V2)) ∧ (((upm V 369 0 0) 369 18) = 0 → Q (some (vI 0)) (upm V 369 0 0)))) : Mf K (d + 1) mX12_undo [vR 369] V Q := by
  refine Mt.of2 (L := [some (vR 369)]) pnX12 rfl rfl ?_
  refine wp_aload_n dX12_undo_0 rfl rfl ?_
  refine wp_iconst dX12_undo_1 (by decide) ?_
  refine wp_putI dX12_undo_2 fwX12_1 rfl sh369 (by decide) ?_
  refine wp_aload_n dX12_undo_5 rfl rfl ?_
  refine wp_getI dX12_undo_6 fX12_282 rfl sh369 (by decide) ?_
  refine wp_if_ne (tgt := 14) dX12_undo_9 rfl (fun c1 => ?_) (fun c1 => ?_)
  ·
    refine wp_aload_n dX12_undo_14 rfl rfl ?_
    refine wp_dup dX12_undo_15 rfl ?_
    refine wp_getI dX12_undo_16 fX12_282 rfl sh369 (by decide) ?_
    refine wp_iconst dX12_undo_19 (by decide) ?_
    refine wp_isub dX12_undo_20 ?_
    refine wp_putI dX12_undo_21 fwX12_282 rfl sh369 (by decide) ?_
    refine wp_aload_n dX12_undo_24 rfl rfl ?_
    refine wp_sipush dX12_undo_25 (by decide) ?_
    refine wp_iconst dX12_undo_28 (by decide) ?_
    refine wp_aload_n dX12_undo_29 rfl rfl ?_
    refine wp_getI dX12_undo_30 fX12_282 rfl sh369 (by decide) ?_
    refine wp_iadd dX12_undo_33 ?_
    refine wp_imul dX12_undo_34 ?_
    refine wp_iconst dX12_undo_35 (by decide) ?_
    refine wp_sipush dX12_undo_36 (by decide) ?_
    refine wp_callV (S := []) (as := [vI (w32 (206 * (w32 (5 + ((upm (upm V 369 0 0) 369 18 (w32 (((upm V 369 0 0) 369 18) - 1))) 369 18))))), vI 0, vI 181]) dX12_undo_39 lX12_285 ((h.1 c1)) (by omega) sh369 rfl rfl (Nat.le_of_ble_eq_true rfl) ⟨Nat.le_refl _, Nat.le_refl _⟩ ?_
    rintro _ _ V2 ⟨rfl, rfl, q2⟩
    show Wp _ _ _ _ _ 42 _ [] _ _ _ _ _
    refine wp_iconst dX12_undo_42 (by decide) ?_
    exact wp_zreturn dX12_undo_43 rfl ⟨rfl, rfl⟩ (by decide) ⟨rfl, q2⟩
  ·
    refine wp_iconst dX12_undo_12 (by decide) ?_
    exact wp_zreturn dX12_undo_13 rfl ⟨rfl, rfl⟩ (by decide) ⟨rfl, (h.2 c1)⟩
set_option maxHeartbeats 4000000 in
set_option maxRecDepth 10000 in
theorem sX12_numbersOf {K : KK} {d : Nat} {V : Mem} {Q : Option AV → Mem → Prop} (x1 : Int) (h : Wf K (d + 1) mX12_numbersOf 4 [some (vR 369), some (vI x1), some (vI 0), some (vI 0)] [] V Q) : Mf K (d + 1) mX12_numbersOf [vR 369, vI x1] V Q := by
  refine Mt.of2 (L := [some (vR 369), some (vI x1), none, none]) pnX12 rfl rfl ?_
  refine wp_iconst dX12_numbersOf_0 (by decide) ?_
  refine wp_istore_n dX12_numbersOf_1 rfl (by decide) rfl ?_
  refine wp_iconst dX12_numbersOf_2 (by decide) ?_
  refine wp_istore_n dX12_numbersOf_3 rfl (by decide) rfl ?_
  exact h
set_option maxHeartbeats 4000000 in
set_option maxRecDepth 10000 in
theorem sX12_numbersOf_4 {K : KK} {d : Nat} {V : Mem} {Q : Option AV → Mem → Prop} (x1 : Int) (x2 : Int) (x3 : Int) (h : (((V 375 0) ≤ x3 → Q (some (vI x2)) V) ∧ (¬ ((V 375 0) ≤ x3) → (((0 : Int) ≤ (w32 (x1 + x3)) ∧ (w32 (x1 + x3)) < (4532 : Nat)) ∧ Wf K (d + 1) mX12_numbersOf 4 [some (vR 369), some (vI x1), some (vI (w32 (x2 + (V 381 (Int.toNat (w32 (x1 + x3))))))), some (vI (w32 (x3 + 1)))] [] V Q)))) : Wf K (d + 1) mX12_numbersOf 4 [some (vR 369), some (vI x1), some (vI x2), some (vI x3)] [] V Q := by
  refine wp_iload_n dX12_numbersOf_4 rfl rfl ?_
  refine wp_aload_n dX12_numbersOf_5 rfl rfl ?_
  refine wp_inlV (d' := d) (S := [vI x3]) (as := []) dX12_numbersOf_6 lX12_272 (by omega) sh369 rfl rfl (Nat.le_of_ble_eq_true rfl) ⟨Nat.le_refl _, Nat.le_refl _⟩ (Mt.of2 (L := [some (vR 369)]) pnX12 rfl rfl ?_)
  refine wp_aload_n dX12_rows_0 rfl rfl ?_
  refine wp_getR (b := 375) dX12_rows_1 fX12_75 rfl sh369 (by decide) rfl ?_
  refine wp_iconst dX12_rows_4 (by decide) ?_
  refine wp_iald dX12_rows_5 sh375 (by decide) ?_
  refine wp_ireturn dX12_rows_6 rfl ⟨rfl, rfl⟩ ?_
  show Wp _ _ _ _ _ 9 _ [vI (V 375 0), vI x3] _ _ _ _ _
  refine wp_icmp_ge (tgt := 27) dX12_numbersOf_9 rfl (fun c1 => ?_) (fun c1 => ?_)
  ·
    refine wp_iload_n dX12_numbersOf_27 rfl rfl ?_
    exact wp_ireturn dX12_numbersOf_28 rfl ⟨rfl, rfl⟩ ⟨rfl, (h.1 c1)⟩
  ·
    refine wp_iload_n dX12_numbersOf_12 rfl rfl ?_
    refine wp_aload_n dX12_numbersOf_13 rfl rfl ?_
    refine wp_iload_n dX12_numbersOf_14 rfl rfl ?_
    refine wp_iload_n dX12_numbersOf_15 rfl rfl ?_
    refine wp_inlV (d' := d) (S := [vI x2]) (as := [vI x1, vI x3]) dX12_numbersOf_16 lX12_292 (by omega) sh369 rfl rfl (Nat.le_of_ble_eq_true rfl) ⟨Nat.le_refl _, Nat.le_refl _⟩ (Mt.of2 (L := [some (vR 369), some (vI x1), some (vI x3)]) pnX12 rfl rfl ?_)
    refine wp_aload_n dX12_manyOf_0 rfl rfl ?_
    refine wp_getR (b := 381) dX12_manyOf_1 fX12_93 rfl sh369 (by decide) rfl ?_
    refine wp_iload_n dX12_manyOf_4 rfl rfl ?_
    refine wp_iload_n dX12_manyOf_5 rfl rfl ?_
    refine wp_iadd dX12_manyOf_6 ?_
    refine wp_iald dX12_manyOf_7 sh381 (h.2 c1).1 ?_
    refine wp_ireturn dX12_manyOf_8 rfl ⟨rfl, rfl⟩ ?_
    show Wp _ _ _ _ _ 19 _ [vI (V 381 (Int.toNat (w32 (x1 + x3)))), vI x2] _ _ _ _ _
    refine wp_iadd dX12_numbersOf_19 ?_
    refine wp_istore_n dX12_numbersOf_20 rfl (by decide) rfl ?_
    refine wp_iinc dX12_numbersOf_21 rfl rfl ?_
    refine wp_goto (tgt := 4) dX12_numbersOf_24 rfl ?_
    exact (h.2 c1).2
set_option maxHeartbeats 4000000 in
set_option maxRecDepth 10000 in
theorem sX12_judged {K : KK} {d : Nat} {V : Mem} {Q : Option AV → Mem → Prop} (x1 : Int) (h : Mf K d mX12_within [vI x1, vI 0, vI 2] (upm V 369 0 0) (fun r V1 => ∃ z1, r = some (vI z1) ∧ ((¬ z1 = 0 → Mf K d mX12_starts [vR 369, vI 4326] V1 (fun r V3 => r = none ∧ Wf K (d + 1) mX12_judged 28 [some (vR 369), some (vI x1), some (vI (-1)), some (vI 0), none, none] [] V3 Q)) ∧ (z1 = 0 → Q (some (vI (-2))) V1)))) : Mf K (d + 1) mX12_judged [vR 369, vI x1] V Q := by
  refine Mt.of2 (L := [some (vR 369), some (vI x1), none, none, none, none]) pnX12 rfl rfl ?_
  refine wp_aload_n dX12_judged_0 rfl rfl ?_
  refine wp_iconst dX12_judged_1 (by decide) ?_
  refine wp_putI dX12_judged_2 fwX12_1 rfl sh369 (by decide) ?_
  refine wp_iload_n dX12_judged_5 rfl rfl ?_
  refine wp_iconst dX12_judged_6 (by decide) ?_
  refine wp_iconst dX12_judged_7 (by decide) ?_
  refine wp_callS (S := []) (as := [vI x1, vI 0, vI 2]) dX12_judged_8 lX12_358 (h) (by omega) rfl rfl (Nat.le_of_ble_eq_true rfl) ⟨Nat.le_refl _, Nat.le_refl _⟩ ?_
  rintro _ _ V1 ⟨rfl, z1, rfl, q1⟩
  show Wp _ _ _ _ _ 11 _ [vI z1] _ _ _ _ _
  refine wp_if_ne (tgt := 17) dX12_judged_11 rfl (fun c2 => ?_) (fun c2 => ?_)
  ·
    refine wp_aload_n dX12_judged_17 rfl rfl ?_
    refine wp_sipush dX12_judged_18 (by decide) ?_
    refine wp_callV (S := []) (as := [vI 4326]) dX12_judged_21 lX12_276 ((q1.1 c2)) (by omega) sh369 rfl rfl (Nat.le_of_ble_eq_true rfl) ⟨Nat.le_refl _, Nat.le_refl _⟩ ?_
    rintro _ _ V3 ⟨rfl, rfl, q3⟩
    show Wp _ _ _ _ _ 24 _ [] _ _ _ _ _
    refine wp_iconst dX12_judged_24 (by decide) ?_
    refine wp_istore_n dX12_judged_25 rfl (by decide) rfl ?_
    refine wp_iconst dX12_judged_26 (by decide) ?_
    refine wp_istore_n dX12_judged_27 rfl (by decide) rfl ?_
    exact q3
  ·
    refine wp_bipush dX12_judged_14 (by decide) ?_
    exact wp_ireturn dX12_judged_16 rfl ⟨rfl, rfl⟩ ⟨rfl, (q1.2 c2)⟩
set_option maxHeartbeats 4000000 in
set_option maxRecDepth 10000 in
theorem sX12_judged_28 {K : KK} {d : Nat} {V : Mem} {Q : Option AV → Mem → Prop} (x1 : Int) (x2 : Int) (x3 : Int) (h : (((V 378 0) ≤ x3 → ((¬ x1 = 0 → ((¬ x1 = 1 → Q (some (vI (V 381 4410))) V) ∧ (x1 = 1 → Mf K d mX12_numbersOf [vR 369, vI 4326] V (fun r V4 => ∃ z4, r = some (vI z4) ∧ Q (some (vI z4)) V4)))) ∧ (x1 = 0 → Q (some (vI x2)) V))) ∧ (¬ ((V 378 0) ≤ x3) → (((0 : Int) ≤ (w32 (1 + (w32 (3 * x3)))) ∧ (w32 (1 + (w32 (3 * x3)))) < (190 : Nat)) ∧ (((0 : Int) ≤ (w32 ((w32 (1 + (w32 (3 * x3)))) + 1)) ∧ (w32 ((w32 (1 + (w32 (3 * x3)))) + 1)) < (190 : Nat)) ∧ (((0 : Int) ≤ (w32 ((w32 (1 + (w32 (3 * x3)))) + 2)) ∧ (w32 ((w32 (1 + (w32 (3 * x3)))) + 2)) < (190 : Nat)) ∧ Mf K d mX12_mayDo [vR 369, vI 4326, vI (V 378 (Int.toNat (w32 (1 + (w32 (3 * x3)))))), vI (V 378 (Int.toNat (w32 ((w32 (1 + (w32 (3 * x3)))) + 1)))), vI (V 378 (Int.toNat (w32 ((w32 (1 + (w32 (3 * x3)))) + 2))))] V (fun r V5 => ∃ z5, r = some (vI z5) ∧ ((¬ z5 = 0 → Wf K (d + 1) mX12_judged 92 [some (vR 369), some (vI x1), some (vI x2), some (vI x3), some (vI (w32 (1 + (w32 (3 * x3))))), some (vI z5)] [] V5 Q) ∧ (z5 = 0 → ((0 ≤ x2 → Wf K (d + 1) mX12_judged 92 [some (vR 369), some (vI x1), some (vI x2), some (vI x3), some (vI (w32 (1 + (w32 (3 * x3))))), some (vI z5)] [] V5 Q) ∧ (¬ (0 ≤ x2) → Wf K (d + 1) mX12_judged 93 [some (vR 369), some (vI x1), none, some (vI x3), some (vI (w32 (1 + (w32 (3 * x3))))), some (vI z5)] [vI x3] V5 Q))))))))))) : Wf K (d + 1) mX12_judged 28 [some (vR 369), some (vI x1), some (vI x2), some (vI x3), none, none] [] V Q := by
  refine wp_iload_n dX12_judged_28 rfl rfl ?_
  refine wp_aload_n dX12_judged_29 rfl rfl ?_
  refine wp_getR (b := 378) dX12_judged_30 fX12_84 rfl sh369 (by decide) rfl ?_
  refine wp_iconst dX12_judged_33 (by decide) ?_
  refine wp_iald dX12_judged_34 sh378 (by decide) ?_
  refine wp_icmp_ge (tgt := 137) dX12_judged_35 rfl (fun c1 => ?_) (fun c1 => ?_)
  ·
    refine wp_iload_n dX12_judged_137 rfl rfl ?_
    refine wp_if_ne (tgt := 145) dX12_judged_138 rfl (fun c2 => ?_) (fun c2 => ?_)
    ·
      refine wp_iload_n dX12_judged_145 rfl rfl ?_
      refine wp_iconst dX12_judged_146 (by decide) ?_
      refine wp_icmp_ne (tgt := 160) dX12_judged_147 rfl (fun c3 => ?_) (fun c3 => ?_)
      ·
        refine wp_aload_n dX12_judged_160 rfl rfl ?_
        refine wp_getR (b := 381) dX12_judged_161 fX12_93 rfl sh369 (by decide) rfl ?_
        refine wp_sipush dX12_judged_164 (by decide) ?_
        refine wp_iald dX12_judged_167 sh381 (by decide) ?_
        exact wp_ireturn dX12_judged_168 rfl ⟨rfl, rfl⟩ ⟨rfl, (((h.1 c1).1 c2).1 c3)⟩
      ·
        refine wp_aload_n dX12_judged_150 rfl rfl ?_
        refine wp_sipush dX12_judged_151 (by decide) ?_
        refine wp_callV (S := []) (as := [vI 4326]) dX12_judged_154 lX12_417 ((((h.1 c1).1 c2).2 c3)) (by omega) sh369 rfl rfl (Nat.le_of_ble_eq_true rfl) ⟨Nat.le_refl _, Nat.le_refl _⟩ ?_
        rintro _ _ V4 ⟨rfl, z4, rfl, q4⟩
        show Wp _ _ _ _ _ 157 _ [vI z4] _ _ _ _ _
        refine wp_goto (tgt := 168) dX12_judged_157 rfl ?_
        exact wp_ireturn dX12_judged_168 rfl ⟨rfl, rfl⟩ ⟨rfl, q4⟩
    ·
      refine wp_iload_n dX12_judged_141 rfl rfl ?_
      refine wp_goto (tgt := 168) dX12_judged_142 rfl ?_
      exact wp_ireturn dX12_judged_168 rfl ⟨rfl, rfl⟩ ⟨rfl, ((h.1 c1).2 c2)⟩
  ·
    refine wp_iconst dX12_judged_38 (by decide) ?_
    refine wp_iconst dX12_judged_39 (by decide) ?_
    refine wp_iload_n dX12_judged_40 rfl rfl ?_
    refine wp_imul dX12_judged_41 ?_
    refine wp_iadd dX12_judged_42 ?_
    refine wp_istore dX12_judged_43 (by decide) rfl ?_
    refine wp_aload_n dX12_judged_45 rfl rfl ?_
    refine wp_sipush dX12_judged_46 (by decide) ?_
    refine wp_aload_n dX12_judged_49 rfl rfl ?_
    refine wp_getR (b := 378) dX12_judged_50 fX12_84 rfl sh369 (by decide) rfl ?_
    refine wp_iload dX12_judged_53 rfl ?_
    refine wp_iald dX12_judged_55 sh378 (h.2 c1).1 ?_
    refine wp_aload_n dX12_judged_56 rfl rfl ?_
    refine wp_getR (b := 378) dX12_judged_57 fX12_84 rfl sh369 (by decide) rfl ?_
    refine wp_iload dX12_judged_60 rfl ?_
    refine wp_iconst dX12_judged_62 (by decide) ?_
    refine wp_iadd dX12_judged_63 ?_
    refine wp_iald dX12_judged_64 sh378 (h.2 c1).2.1 ?_
    refine wp_aload_n dX12_judged_65 rfl rfl ?_
    refine wp_getR (b := 378) dX12_judged_66 fX12_84 rfl sh369 (by decide) rfl ?_
    refine wp_iload dX12_judged_69 rfl ?_
    refine wp_iconst dX12_judged_71 (by decide) ?_
    refine wp_iadd dX12_judged_72 ?_
    refine wp_iald dX12_judged_73 sh378 (h.2 c1).2.2.1 ?_
    refine wp_callV (S := []) (as := [vI 4326, vI (V 378 (Int.toNat (w32 (1 + (w32 (3 * x3)))))), vI (V 378 (Int.toNat (w32 ((w32 (1 + (w32 (3 * x3)))) + 1)))), vI (V 378 (Int.toNat (w32 ((w32 (1 + (w32 (3 * x3)))) + 2))))]) dX12_judged_74 lX12_403 ((h.2 c1).2.2.2) (by omega) sh369 rfl rfl (Nat.le_of_ble_eq_true rfl) ⟨Nat.le_refl _, Nat.le_refl _⟩ ?_
    rintro _ _ V5 ⟨rfl, z5, rfl, q5⟩
    show Wp _ _ _ _ _ 77 _ [vI z5] _ _ _ _ _
    refine wp_istore dX12_judged_77 (by decide) rfl ?_
    refine wp_iload dX12_judged_79 rfl ?_
    refine wp_if_ne (tgt := 92) dX12_judged_81 rfl (fun c6 => ?_) (fun c6 => ?_)
    ·
      exact (q5.1 c6)
    ·
      refine wp_iload_n dX12_judged_84 rfl rfl ?_
      refine wp_if_ge (tgt := 92) dX12_judged_85 rfl (fun c7 => ?_) (fun c7 => ?_)
      ·
        exact ((q5.2 c6).1 c7)
      ·
        refine wp_iload_n dX12_judged_88 rfl rfl ?_
        refine wp_goto (tgt := 93) dX12_judged_89 rfl ?_
        exact wp_loc (L2 := [some (vR 369), some (vI x1), none, some (vI x3), some (vI (w32 (1 + (w32 (3 * x3))))), some (vI z5)]) ⟨rfl, ⟨rfl, ⟨rfl, ⟨rfl, ⟨rfl, trivial⟩⟩⟩⟩⟩ ((q5.2 c6).2 c7)
set_option maxHeartbeats 4000000 in
set_option maxRecDepth 10000 in
theorem sX12_judged_92 {K : KK} {d : Nat} {V : Mem} {Q : Option AV → Mem → Prop} (x1 : Int) (x2 : Int) (x3 : Int) (x4 : Int) (x5 : Int) (h : Wf K (d + 1) mX12_judged 93 [some (vR 369), some (vI x1), none, some (vI x3), some (vI x4), some (vI x5)] [vI x2] V Q) : Wf K (d + 1) mX12_judged 92 [some (vR 369), some (vI x1), some (vI x2), some (vI x3), some (vI x4), some (vI x5)] [] V Q := by
  refine wp_iload_n dX12_judged_92 rfl rfl ?_
  exact wp_loc (L2 := [some (vR 369), some (vI x1), none, some (vI x3), some (vI x4), some (vI x5)]) ⟨rfl, ⟨rfl, ⟨rfl, ⟨rfl, ⟨rfl, trivial⟩⟩⟩⟩⟩ h
set_option maxHeartbeats 4000000 in
set_option maxRecDepth 10000 in
theorem sX12_judged_93 {K : KK} {d : Nat} {V : Mem} {Q : Option AV → Mem → Prop} (x1 : Int) (x3 : Int) (x4 : Int) (x5 : Int) (s0 : Int) (h : ((x5 = 0 → Wf K (d + 1) mX12_judged 131 [some (vR 369), some (vI x1), some (vI s0), some (vI x3), none, none] [] V Q) ∧ (¬ (x5 = 0) → (((0 : Int) ≤ x4 ∧ x4 < (190 : Nat)) ∧ (((0 : Int) ≤ (w32 (x4 + 1)) ∧ (w32 (x4 + 1)) < (190 : Nat)) ∧ (((0 : Int) ≤ (w32 (x4 + 2)) ∧ (w32 (x4 + 2)) < (190 : Nat)) ∧ Mf K d mX12_does [vR 369, vI 4326, vI (V 378 (Int.toNat x4)), vI (V 378 (Int.toNat (w32 (x4 + 1)))), vI (V 378 (Int.toNat (w32 (x4 + 2))))] V (fun r V2 => r = none ∧ Wf K (d + 1) mX12_judged 131 [some (vR 369), some (vI x1), some (vI s0), some (vI x3), none, none] [] V2 Q))))))) : Wf K (d + 1) mX12_judged 93 [some (vR 369), some (vI x1), none, some (vI x3), some (vI x4), some (vI x5)] [vI s0] V Q := by
  refine wp_istore_n dX12_judged_93 rfl (by decide) rfl ?_
  refine wp_iload dX12_judged_94 rfl ?_
  refine wp_if_eq (tgt := 131) dX12_judged_96 rfl (fun c1 => ?_) (fun c1 => ?_)
  ·
    exact wp_loc (L2 := [some (vR 369), some (vI x1), some (vI s0), some (vI x3), none, none]) ⟨rfl, ⟨rfl, ⟨rfl, ⟨rfl, trivial⟩⟩⟩⟩ (h.1 c1)
  ·
    refine wp_aload_n dX12_judged_99 rfl rfl ?_
    refine wp_sipush dX12_judged_100 (by decide) ?_
    refine wp_aload_n dX12_judged_103 rfl rfl ?_
    refine wp_getR (b := 378) dX12_judged_104 fX12_84 rfl sh369 (by decide) rfl ?_
    refine wp_iload dX12_judged_107 rfl ?_
    refine wp_iald dX12_judged_109 sh378 (h.2 c1).1 ?_
    refine wp_aload_n dX12_judged_110 rfl rfl ?_
    refine wp_getR (b := 378) dX12_judged_111 fX12_84 rfl sh369 (by decide) rfl ?_
    refine wp_iload dX12_judged_114 rfl ?_
    refine wp_iconst dX12_judged_116 (by decide) ?_
    refine wp_iadd dX12_judged_117 ?_
    refine wp_iald dX12_judged_118 sh378 (h.2 c1).2.1 ?_
    refine wp_aload_n dX12_judged_119 rfl rfl ?_
    refine wp_getR (b := 378) dX12_judged_120 fX12_84 rfl sh369 (by decide) rfl ?_
    refine wp_iload dX12_judged_123 rfl ?_
    refine wp_iconst dX12_judged_125 (by decide) ?_
    refine wp_iadd dX12_judged_126 ?_
    refine wp_iald dX12_judged_127 sh378 (h.2 c1).2.2.1 ?_
    refine wp_callV (S := []) (as := [vI 4326, vI (V 378 (Int.toNat x4)), vI (V 378 (Int.toNat (w32 (x4 + 1)))), vI (V 378 (Int.toNat (w32 (x4 + 2))))]) dX12_judged_128 lX12_410 ((h.2 c1).2.2.2) (by omega) sh369 rfl rfl (Nat.le_of_ble_eq_true rfl) ⟨Nat.le_refl _, Nat.le_refl _⟩ ?_
    rintro _ _ V2 ⟨rfl, rfl, q2⟩
    show Wp _ _ _ _ _ 131 _ [] _ _ _ _ _
    exact wp_loc (L2 := [some (vR 369), some (vI x1), some (vI s0), some (vI x3), none, none]) ⟨rfl, ⟨rfl, ⟨rfl, ⟨rfl, trivial⟩⟩⟩⟩ q2
set_option maxHeartbeats 4000000 in
set_option maxRecDepth 10000 in
theorem sX12_judged_131 {K : KK} {d : Nat} {V : Mem} {Q : Option AV → Mem → Prop} (x1 : Int) (x2 : Int) (x3 : Int) (h : Wf K (d + 1) mX12_judged 28 [some (vR 369), some (vI x1), some (vI x2), some (vI (w32 (x3 + 1))), none, none] [] V Q) : Wf K (d + 1) mX12_judged 131 [some (vR 369), some (vI x1), some (vI x2), some (vI x3), none, none] [] V Q := by
  refine wp_iinc dX12_judged_131 rfl rfl ?_
  refine wp_goto (tgt := 28) dX12_judged_134 rfl ?_
  exact h
set_option maxHeartbeats 4000000 in
set_option maxRecDepth 10000 in
theorem sX12_see {K : KK} {d : Nat} {V : Mem} {Q : Option AV → Mem → Prop} (x1 : Int) (x2 : Int) (x3 : Int) (h : Mf K d mX12_isRow [vR 369, vI x1] (upm V 369 0 0) (fun r V1 => ∃ z1, r = some (vI z1) ∧ ((z1 = 0 → Q (some (vI 0)) V1) ∧ (¬ (z1 = 0) → Mf K d mX12_within [vI x2, vI 1, vI 20] V1 (fun r V3 => ∃ z3, r = some (vI z3) ∧ ((z3 = 0 → Q (some (vI 0)) V3) ∧ (¬ (z3 = 0) → ((¬ (V3 381 181) = 8 → (((0 : Int) ≤ (w32 (182 + (w32 (3 * (V3 381 181))))) ∧ (w32 (182 + (w32 (3 * (V3 381 181))))) < (4532 : Nat)) ∧ (((0 : Int) ≤ (w32 ((w32 (182 + (w32 (3 * (V3 381 181))))) + 1)) ∧ (w32 ((w32 (182 + (w32 (3 * (V3 381 181))))) + 1)) < (4532 : Nat)) ∧ ((x3 = 0 → (((0 : Int) ≤ (w32 ((w32 (182 + (w32 (3 * (V3 381 181))))) + 2)) ∧ (w32 ((w32 (182 + (w32 (3 * (V3 381 181))))) + 2)) < (4532 : Nat)) ∧ Q (some (vI 1)) (upm (upm (upm (upm V3 381 (Int.toNat (w32 (182 + (w32 (3 * (V3 381 181)))))) x1) 381 (Int.toNat (w32 ((w32 (182 + (w32 (3 * (V3 381 181))))) + 1))) x2) 381 (Int.toNat (w32 ((w32 (182 + (w32 (3 * (V3 381 181))))) + 2))) 0) 381 181 (w32 (((upm (upm (upm V3 381 (Int.toNat (w32 (182 + (w32 (3 * (V3 381 181)))))) x1) 381 (Int.toNat (w32 ((w32 (182 + (w32 (3 * (V3 381 181))))) + 1))) x2) 381 (Int.toNat (w32 ((w32 (182 + (w32 (3 * (V3 381 181))))) + 2))) 0) 381 181) + 1))))) ∧ (¬ (x3 = 0) → (((0 : Int) ≤ (w32 ((w32 (182 + (w32 (3 * (V3 381 181))))) + 2)) ∧ (w32 ((w32 (182 + (w32 (3 * (V3 381 181))))) + 2)) < (4532 : Nat)) ∧ Q (some (vI 1)) (upm (upm (upm (upm V3 381 (Int.toNat (w32 (182 + (w32 (3 * (V3 381 181)))))) x1) 381 (Int.toNat (w32 ((w32 (182 + (w32 (3 * (V3 381 181))))) + 1))) x2) 381 (Int.toNat (w32 ((w32 (182 + (w32 (3 * (V3 381 181))))) + 2))) 1) 381 181 (w32 (((upm (upm (upm V3 381 (Int.toNat (w32 (182 + (w32 (3 * (V3 381 181)))))) x1) 381 (Int.toNat (w32 ((w32 (182 + (w32 (3 * (V3 381 181))))) + 1))) x2) 381 (Int.toNat (w32 ((w32 (182 + (w32 (3 * (V3 381 181))))) + 2))) 1) 381 181) + 1))))))))) ∧ ((V3 381 181) = 8 → Q (some (vI 0)) V3))))))))) : Mf K (d + 1) mX12_see [vR 369, vI x1, vI x2, vI x3] V Q := by
  refine Mt.of2 (L := [some (vR 369), some (vI x1), some (vI x2), some (vI x3), none]) pnX12 rfl rfl ?_
  refine wp_aload_n dX12_see_0 rfl rfl ?_
  refine wp_iconst dX12_see_1 (by decide) ?_
  refine wp_putI dX12_see_2 fwX12_1 rfl sh369 (by decide) ?_
  refine wp_aload_n dX12_see_5 rfl rfl ?_
  refine wp_iload_n dX12_see_6 rfl rfl ?_
  refine wp_callV (S := []) (as := [vI x1]) dX12_see_7 lX12_289 (h) (by omega) sh369 rfl rfl (Nat.le_of_ble_eq_true rfl) ⟨Nat.le_refl _, Nat.le_refl _⟩ ?_
  rintro _ _ V1 ⟨rfl, z1, rfl, q1⟩
  show Wp _ _ _ _ _ 10 _ [vI z1] _ _ _ _ _
  refine wp_if_eq (tgt := 36) dX12_see_10 rfl (fun c2 => ?_) (fun c2 => ?_)
  ·
    refine wp_iconst dX12_see_36 (by decide) ?_
    exact wp_zreturn dX12_see_37 rfl ⟨rfl, rfl⟩ (by decide) ⟨rfl, (q1.1 c2)⟩
  ·
    refine wp_iload_n dX12_see_13 rfl rfl ?_
    refine wp_iconst dX12_see_14 (by decide) ?_
    refine wp_bipush dX12_see_15 (by decide) ?_
    refine wp_callS (S := []) (as := [vI x2, vI 1, vI 20]) dX12_see_17 lX12_358 ((q1.2 c2)) (by omega) rfl rfl (Nat.le_of_ble_eq_true rfl) ⟨Nat.le_refl _, Nat.le_refl _⟩ ?_
    rintro _ _ V3 ⟨rfl, z3, rfl, q3⟩
    show Wp _ _ _ _ _ 20 _ [vI z3] _ _ _ _ _
    refine wp_if_eq (tgt := 36) dX12_see_20 rfl (fun c4 => ?_) (fun c4 => ?_)
    ·
      refine wp_iconst dX12_see_36 (by decide) ?_
      exact wp_zreturn dX12_see_37 rfl ⟨rfl, rfl⟩ (by decide) ⟨rfl, (q3.1 c4)⟩
    ·
      refine wp_aload_n dX12_see_23 rfl rfl ?_
      refine wp_getR (b := 381) dX12_see_24 fX12_93 rfl sh369 (by decide) rfl ?_
      refine wp_sipush dX12_see_27 (by decide) ?_
      refine wp_iald dX12_see_30 sh381 (by decide) ?_
      refine wp_bipush dX12_see_31 (by decide) ?_
      refine wp_icmp_ne (tgt := 38) dX12_see_33 rfl (fun c5 => ?_) (fun c5 => ?_)
      ·
        refine wp_sipush dX12_see_38 (by decide) ?_
        refine wp_iconst dX12_see_41 (by decide) ?_
        refine wp_aload_n dX12_see_42 rfl rfl ?_
        refine wp_getR (b := 381) dX12_see_43 fX12_93 rfl sh369 (by decide) rfl ?_
        refine wp_sipush dX12_see_46 (by decide) ?_
        refine wp_iald dX12_see_49 sh381 (by decide) ?_
        refine wp_imul dX12_see_50 ?_
        refine wp_iadd dX12_see_51 ?_
        refine wp_istore dX12_see_52 (by decide) rfl ?_
        refine wp_aload_n dX12_see_54 rfl rfl ?_
        refine wp_getR (b := 381) dX12_see_55 fX12_93 rfl sh369 (by decide) rfl ?_
        refine wp_iload dX12_see_58 rfl ?_
        refine wp_iload_n dX12_see_60 rfl rfl ?_
        refine wp_iast dX12_see_61 sh381 ((q3.2 c4).1 c5).1 ?_
        refine wp_aload_n dX12_see_62 rfl rfl ?_
        refine wp_getR (b := 381) dX12_see_63 fX12_93 rfl sh369 (by decide) rfl ?_
        refine wp_iload dX12_see_66 rfl ?_
        refine wp_iconst dX12_see_68 (by decide) ?_
        refine wp_iadd dX12_see_69 ?_
        refine wp_iload_n dX12_see_70 rfl rfl ?_
        refine wp_iast dX12_see_71 sh381 ((q3.2 c4).1 c5).2.1 ?_
        refine wp_aload_n dX12_see_72 rfl rfl ?_
        refine wp_getR (b := 381) dX12_see_73 fX12_93 rfl sh369 (by decide) rfl ?_
        refine wp_iload dX12_see_76 rfl ?_
        refine wp_iconst dX12_see_78 (by decide) ?_
        refine wp_iadd dX12_see_79 ?_
        refine wp_iload_n dX12_see_80 rfl rfl ?_
        refine wp_if_eq (tgt := 88) dX12_see_81 rfl (fun c6 => ?_) (fun c6 => ?_)
        ·
          refine wp_iconst dX12_see_88 (by decide) ?_
          refine wp_iast dX12_see_89 sh381 (((q3.2 c4).1 c5).2.2.1 c6).1 ?_
          refine wp_aload_n dX12_see_90 rfl rfl ?_
          refine wp_getR (b := 381) dX12_see_91 fX12_93 rfl sh369 (by decide) rfl ?_
          refine wp_sipush dX12_see_94 (by decide) ?_
          refine wp_dup2 dX12_see_97 rfl rfl ?_
          refine wp_iald dX12_see_98 sh381 (by decide) ?_
          refine wp_iconst dX12_see_99 (by decide) ?_
          refine wp_iadd dX12_see_100 ?_
          refine wp_iast dX12_see_101 sh381 (by decide) ?_
          refine wp_iconst dX12_see_102 (by decide) ?_
          exact wp_zreturn dX12_see_103 rfl ⟨rfl, rfl⟩ (by decide) ⟨rfl, (((q3.2 c4).1 c5).2.2.1 c6).2⟩
        ·
          refine wp_iconst dX12_see_84 (by decide) ?_
          refine wp_goto (tgt := 89) dX12_see_85 rfl ?_
          refine wp_iast dX12_see_89 sh381 (((q3.2 c4).1 c5).2.2.2 c6).1 ?_
          refine wp_aload_n dX12_see_90 rfl rfl ?_
          refine wp_getR (b := 381) dX12_see_91 fX12_93 rfl sh369 (by decide) rfl ?_
          refine wp_sipush dX12_see_94 (by decide) ?_
          refine wp_dup2 dX12_see_97 rfl rfl ?_
          refine wp_iald dX12_see_98 sh381 (by decide) ?_
          refine wp_iconst dX12_see_99 (by decide) ?_
          refine wp_iadd dX12_see_100 ?_
          refine wp_iast dX12_see_101 sh381 (by decide) ?_
          refine wp_iconst dX12_see_102 (by decide) ?_
          exact wp_zreturn dX12_see_103 rfl ⟨rfl, rfl⟩ (by decide) ⟨rfl, (((q3.2 c4).1 c5).2.2.2 c6).2⟩
      ·
        refine wp_iconst dX12_see_36 (by decide) ?_
        exact wp_zreturn dX12_see_37 rfl ⟨rfl, rfl⟩ (by decide) ⟨rfl, ((q3.2 c4).2 c5)⟩
set_option maxHeartbeats 4000000 in
set_option maxRecDepth 10000 in
theorem sX12_isAsSeen {K : KK} {d : Nat} {V : Mem} {Q : Option AV → Mem → Prop} (x1 : Int) (x2 : Int) (x3 : Int) (h : Wf K (d + 1) mX12_isAsSeen 6 [some (vR 369), some (vI x1), some (vI x2), some (vI x3), some (vI 1), some (vI 0), none] [] V Q) : Mf K (d + 1) mX12_isAsSeen [vR 369, vI x1, vI x2, vI x3] V Q := by
  refine Mt.of2 (L := [some (vR 369), some (vI x1), some (vI x2), some (vI x3), none, none, none]) pnX12 rfl rfl ?_
  refine wp_iconst dX12_isAsSeen_0 (by decide) ?_
  refine wp_istore dX12_isAsSeen_1 (by decide) rfl ?_
  refine wp_iconst dX12_isAsSeen_3 (by decide) ?_
  refine wp_istore dX12_isAsSeen_4 (by decide) rfl ?_
  exact h
set_option maxHeartbeats 4000000 in
set_option maxRecDepth 10000 in
theorem sX12_isAsSeen_6 {K : KK} {d : Nat} {V : Mem} {Q : Option AV → Mem → Prop} (x1 : Int) (x2 : Int) (x3 : Int) (x4 : Int) (x5 : Int) (h : (((V 381 181) ≤ x5 → ((x4 = 0 ∨ x4 = 1) ∧ Q (some (vI x4)) V)) ∧ (¬ ((V 381 181) ≤ x5) → ((x4 = 0 → Wf K (d + 1) mX12_isAsSeen 6 [some (vR 369), some (vI x1), some (vI x2), some (vI x3), some (vI 0), some (vI (w32 (x5 + 1))), none] [] V Q) ∧ (¬ (x4 = 0) → (((0 : Int) ≤ (w32 (182 + (w32 (3 * x5)))) ∧ (w32 (182 + (w32 (3 * x5)))) < (4532 : Nat)) ∧ ((¬ (V 381 (Int.toNat (w32 (182 + (w32 (3 * x5)))))) = x1 → Wf K (d + 1) mX12_isAsSeen 6 [some (vR 369), some (vI x1), some (vI x2), some (vI x3), some (vI 1), some (vI (w32 (x5 + 1))), none] [] V Q) ∧ ((V 381 (Int.toNat (w32 (182 + (w32 (3 * x5)))))) = x1 → (((0 : Int) ≤ (w32 ((w32 (21 * x2)) + x3)) ∧ (w32 ((w32 (21 * x2)) + x3)) < (441 : Nat)) ∧ (((0 : Int) ≤ (w32 ((w32 (182 + (w32 (3 * x5)))) + 1)) ∧ (w32 ((w32 (182 + (w32 (3 * x5)))) + 1)) < (4532 : Nat)) ∧ (((V 384 (Int.toNat (w32 ((w32 (21 * x2)) + x3)))) < (V 381 (Int.toNat (w32 ((w32 (182 + (w32 (3 * x5)))) + 1)))) → (((0 : Int) ≤ (w32 ((w32 (182 + (w32 (3 * x5)))) + 2)) ∧ (w32 ((w32 (182 + (w32 (3 * x5)))) + 2)) < (4532 : Nat)) ∧ ((¬ (V 381 (Int.toNat (w32 ((w32 (182 + (w32 (3 * x5)))) + 2)))) = 1 → Wf K (d + 1) mX12_isAsSeen 6 [some (vR 369), some (vI x1), some (vI x2), some (vI x3), some (vI 1), some (vI (w32 (x5 + 1))), none] [] V Q) ∧ ((V 381 (Int.toNat (w32 ((w32 (182 + (w32 (3 * x5)))) + 2)))) = 1 → Wf K (d + 1) mX12_isAsSeen 6 [some (vR 369), some (vI x1), some (vI x2), some (vI x3), some (vI 0), some (vI (w32 (x5 + 1))), none] [] V Q)))) ∧ (¬ ((V 384 (Int.toNat (w32 ((w32 (21 * x2)) + x3)))) < (V 381 (Int.toNat (w32 ((w32 (182 + (w32 (3 * x5)))) + 1))))) → (((0 : Int) ≤ (w32 ((w32 (182 + (w32 (3 * x5)))) + 2)) ∧ (w32 ((w32 (182 + (w32 (3 * x5)))) + 2)) < (4532 : Nat)) ∧ ((¬ (V 381 (Int.toNat (w32 ((w32 (182 + (w32 (3 * x5)))) + 2)))) = 1 → Wf K (d + 1) mX12_isAsSeen 6 [some (vR 369), some (vI x1), some (vI x2), some (vI x3), some (vI 0), some (vI (w32 (x5 + 1))), none] [] V Q) ∧ ((V 381 (Int.toNat (w32 ((w32 (182 + (w32 (3 * x5)))) + 2)))) = 1 → Wf K (d + 1) mX12_isAsSeen 6 [some (vR 369), some (vI x1), some (vI x2), some (vI x3), some (vI 1), some (vI (w32 (x5 + 1))), none] [] V Q))))))))))))))) : Wf K (d + 1) mX12_isAsSeen 6 [some (vR 369), some (vI x1), some (vI x2), some (vI x3), some (vI x4), some (vI x5), none] [] V Q := by
  refine wp_iload dX12_isAsSeen_6 rfl ?_
  refine wp_aload_n dX12_isAsSeen_8 rfl rfl ?_
  refine wp_getR (b := 381) dX12_isAsSeen_9 fX12_93 rfl sh369 (by decide) rfl ?_
  refine wp_sipush dX12_isAsSeen_12 (by decide) ?_
  refine wp_iald dX12_isAsSeen_15 sh381 (by decide) ?_
  refine wp_icmp_ge (tgt := 102) dX12_isAsSeen_16 rfl (fun c1 => ?_) (fun c1 => ?_)
  ·
    refine wp_iload dX12_isAsSeen_102 rfl ?_
    exact wp_zreturn dX12_isAsSeen_104 rfl ⟨rfl, rfl⟩ (h.1 c1).1 ⟨rfl, (h.1 c1).2⟩
  ·
    refine wp_sipush dX12_isAsSeen_19 (by decide) ?_
    refine wp_iconst dX12_isAsSeen_22 (by decide) ?_
    refine wp_iload dX12_isAsSeen_23 rfl ?_
    refine wp_imul dX12_isAsSeen_25 ?_
    refine wp_iadd dX12_isAsSeen_26 ?_
    refine wp_istore dX12_isAsSeen_27 (by decide) rfl ?_
    refine wp_iload dX12_isAsSeen_29 rfl ?_
    refine wp_if_eq (tgt := 93) dX12_isAsSeen_31 rfl (fun c2 => ?_) (fun c2 => ?_)
    ·
      refine wp_iconst dX12_isAsSeen_93 (by decide) ?_
      refine wp_istore dX12_isAsSeen_94 (by decide) rfl ?_
      refine wp_iinc dX12_isAsSeen_96 rfl rfl ?_
      refine wp_goto (tgt := 6) dX12_isAsSeen_99 rfl ?_
      exact wp_loc (L2 := [some (vR 369), some (vI x1), some (vI x2), some (vI x3), some (vI 0), some (vI (w32 (x5 + 1))), none]) ⟨rfl, ⟨rfl, ⟨rfl, ⟨rfl, ⟨rfl, ⟨rfl, trivial⟩⟩⟩⟩⟩⟩ ((h.2 c1).1 c2)
    ·
      refine wp_aload_n dX12_isAsSeen_34 rfl rfl ?_
      refine wp_getR (b := 381) dX12_isAsSeen_35 fX12_93 rfl sh369 (by decide) rfl ?_
      refine wp_iload dX12_isAsSeen_38 rfl ?_
      refine wp_iald dX12_isAsSeen_40 sh381 ((h.2 c1).2 c2).1 ?_
      refine wp_iload_n dX12_isAsSeen_41 rfl rfl ?_
      refine wp_icmp_ne (tgt := 89) dX12_isAsSeen_42 rfl (fun c3 => ?_) (fun c3 => ?_)
      ·
        refine wp_iconst dX12_isAsSeen_89 (by decide) ?_
        refine wp_goto (tgt := 94) dX12_isAsSeen_90 rfl ?_
        refine wp_istore dX12_isAsSeen_94 (by decide) rfl ?_
        refine wp_iinc dX12_isAsSeen_96 rfl rfl ?_
        refine wp_goto (tgt := 6) dX12_isAsSeen_99 rfl ?_
        exact wp_loc (L2 := [some (vR 369), some (vI x1), some (vI x2), some (vI x3), some (vI 1), some (vI (w32 (x5 + 1))), none]) ⟨rfl, ⟨rfl, ⟨rfl, ⟨rfl, ⟨rfl, ⟨rfl, trivial⟩⟩⟩⟩⟩⟩ (((h.2 c1).2 c2).2.1 c3)
      ·
        refine wp_aload_n dX12_isAsSeen_45 rfl rfl ?_
        refine wp_iload_n dX12_isAsSeen_46 rfl rfl ?_
        refine wp_iload_n dX12_isAsSeen_47 rfl rfl ?_
        refine wp_inlV (d' := d) (S := []) (as := [vI x2, vI x3]) dX12_isAsSeen_48 lX12_321 (by omega) sh369 rfl rfl (Nat.le_of_ble_eq_true rfl) ⟨Nat.le_refl _, Nat.le_refl _⟩ (Mt.of2 (L := [some (vR 369), some (vI x2), some (vI x3)]) pnX12 rfl rfl ?_)
        refine wp_aload_n dX12_longAt_0 rfl rfl ?_
        refine wp_getR (b := 384) dX12_longAt_1 fX12_103 rfl sh369 (by decide) rfl ?_
        refine wp_bipush dX12_longAt_4 (by decide) ?_
        refine wp_iload_n dX12_longAt_6 rfl rfl ?_
        refine wp_imul dX12_longAt_7 ?_
        refine wp_iload_n dX12_longAt_8 rfl rfl ?_
        refine wp_iadd dX12_longAt_9 ?_
        refine wp_iald dX12_longAt_10 sh384 (((h.2 c1).2 c2).2.2 c3).1 ?_
        refine wp_ireturn dX12_longAt_11 rfl ⟨rfl, rfl⟩ ?_
        show Wp _ _ _ _ _ 51 _ [vI (V 384 (Int.toNat (w32 ((w32 (21 * x2)) + x3))))] _ _ _ _ _
        refine wp_aload_n dX12_isAsSeen_51 rfl rfl ?_
        refine wp_getR (b := 381) dX12_isAsSeen_52 fX12_93 rfl sh369 (by decide) rfl ?_
        refine wp_iload dX12_isAsSeen_55 rfl ?_
        refine wp_iconst dX12_isAsSeen_57 (by decide) ?_
        refine wp_iadd dX12_isAsSeen_58 ?_
        refine wp_iald dX12_isAsSeen_59 sh381 (((h.2 c1).2 c2).2.2 c3).2.1 ?_
        refine wp_icmp_lt (tgt := 67) dX12_isAsSeen_60 rfl (fun c4 => ?_) (fun c4 => ?_)
        ·
          refine wp_iconst dX12_isAsSeen_67 (by decide) ?_
          refine wp_aload_n dX12_isAsSeen_68 rfl rfl ?_
          refine wp_getR (b := 381) dX12_isAsSeen_69 fX12_93 rfl sh369 (by decide) rfl ?_
          refine wp_iload dX12_isAsSeen_72 rfl ?_
          refine wp_iconst dX12_isAsSeen_74 (by decide) ?_
          refine wp_iadd dX12_isAsSeen_75 ?_
          refine wp_iald dX12_isAsSeen_76 sh381 ((((h.2 c1).2 c2).2.2 c3).2.2.1 c4).1 ?_
          refine wp_iconst dX12_isAsSeen_77 (by decide) ?_
          refine wp_icmp_ne (tgt := 85) dX12_isAsSeen_78 rfl (fun c5 => ?_) (fun c5 => ?_)
          ·
            refine wp_iconst dX12_isAsSeen_85 (by decide) ?_
            refine wp_icmp_ne (tgt := 93) dX12_isAsSeen_86 rfl (fun c6 => False.elim (by revert c6; decide)) (fun c6 => ?_)
            refine wp_iconst dX12_isAsSeen_89 (by decide) ?_
            refine wp_goto (tgt := 94) dX12_isAsSeen_90 rfl ?_
            refine wp_istore dX12_isAsSeen_94 (by decide) rfl ?_
            refine wp_iinc dX12_isAsSeen_96 rfl rfl ?_
            refine wp_goto (tgt := 6) dX12_isAsSeen_99 rfl ?_
            exact wp_loc (L2 := [some (vR 369), some (vI x1), some (vI x2), some (vI x3), some (vI 1), some (vI (w32 (x5 + 1))), none]) ⟨rfl, ⟨rfl, ⟨rfl, ⟨rfl, ⟨rfl, ⟨rfl, trivial⟩⟩⟩⟩⟩⟩ (((((h.2 c1).2 c2).2.2 c3).2.2.1 c4).2.1 c5)
          ·
            refine wp_iconst dX12_isAsSeen_81 (by decide) ?_
            refine wp_goto (tgt := 86) dX12_isAsSeen_82 rfl ?_
            refine wp_icmp_ne (tgt := 93) dX12_isAsSeen_86 rfl (fun c7 => ?_) (fun c7 => False.elim (by revert c7; decide))
            refine wp_iconst dX12_isAsSeen_93 (by decide) ?_
            refine wp_istore dX12_isAsSeen_94 (by decide) rfl ?_
            refine wp_iinc dX12_isAsSeen_96 rfl rfl ?_
            refine wp_goto (tgt := 6) dX12_isAsSeen_99 rfl ?_
            exact wp_loc (L2 := [some (vR 369), some (vI x1), some (vI x2), some (vI x3), some (vI 0), some (vI (w32 (x5 + 1))), none]) ⟨rfl, ⟨rfl, ⟨rfl, ⟨rfl, ⟨rfl, ⟨rfl, trivial⟩⟩⟩⟩⟩⟩ (((((h.2 c1).2 c2).2.2 c3).2.2.1 c4).2.2 c5)
        ·
          refine wp_iconst dX12_isAsSeen_63 (by decide) ?_
          refine wp_goto (tgt := 68) dX12_isAsSeen_64 rfl ?_
          refine wp_aload_n dX12_isAsSeen_68 rfl rfl ?_
          refine wp_getR (b := 381) dX12_isAsSeen_69 fX12_93 rfl sh369 (by decide) rfl ?_
          refine wp_iload dX12_isAsSeen_72 rfl ?_
          refine wp_iconst dX12_isAsSeen_74 (by decide) ?_
          refine wp_iadd dX12_isAsSeen_75 ?_
          refine wp_iald dX12_isAsSeen_76 sh381 ((((h.2 c1).2 c2).2.2 c3).2.2.2 c4).1 ?_
          refine wp_iconst dX12_isAsSeen_77 (by decide) ?_
          refine wp_icmp_ne (tgt := 85) dX12_isAsSeen_78 rfl (fun c8 => ?_) (fun c8 => ?_)
          ·
            refine wp_iconst dX12_isAsSeen_85 (by decide) ?_
            refine wp_icmp_ne (tgt := 93) dX12_isAsSeen_86 rfl (fun c9 => ?_) (fun c9 => False.elim (by revert c9; decide))
            refine wp_iconst dX12_isAsSeen_93 (by decide) ?_
            refine wp_istore dX12_isAsSeen_94 (by decide) rfl ?_
            refine wp_iinc dX12_isAsSeen_96 rfl rfl ?_
            refine wp_goto (tgt := 6) dX12_isAsSeen_99 rfl ?_
            exact wp_loc (L2 := [some (vR 369), some (vI x1), some (vI x2), some (vI x3), some (vI 0), some (vI (w32 (x5 + 1))), none]) ⟨rfl, ⟨rfl, ⟨rfl, ⟨rfl, ⟨rfl, ⟨rfl, trivial⟩⟩⟩⟩⟩⟩ (((((h.2 c1).2 c2).2.2 c3).2.2.2 c4).2.1 c8)
          ·
            refine wp_iconst dX12_isAsSeen_81 (by decide) ?_
            refine wp_goto (tgt := 86) dX12_isAsSeen_82 rfl ?_
            refine wp_icmp_ne (tgt := 93) dX12_isAsSeen_86 rfl (fun c10 => False.elim (by revert c10; decide)) (fun c10 => ?_)
            refine wp_iconst dX12_isAsSeen_89 (by decide) ?_
            refine wp_goto (tgt := 94) dX12_isAsSeen_90 rfl ?_
            refine wp_istore dX12_isAsSeen_94 (by decide) rfl ?_
            refine wp_iinc dX12_isAsSeen_96 rfl rfl ?_
            refine wp_goto (tgt := 6) dX12_isAsSeen_99 rfl ?_
            exact wp_loc (L2 := [some (vR 369), some (vI x1), some (vI x2), some (vI x3), some (vI 1), some (vI (w32 (x5 + 1))), none]) ⟨rfl, ⟨rfl, ⟨rfl, ⟨rfl, ⟨rfl, ⟨rfl, trivial⟩⟩⟩⟩⟩⟩ (((((h.2 c1).2 c2).2.2 c3).2.2.2 c4).2.2 c8)
set_option maxHeartbeats 4000000 in
set_option maxRecDepth 10000 in
theorem sX12_fitting {K : KK} {d : Nat} {V : Mem} {Q : Option AV → Mem → Prop} (x1 : Int) (h : Mf K d mX12_laysRow [vR 369, vI x1] V (fun r V1 => r = none ∧ Mf K d mX12_findsLongs [vR 369] V1 (fun r V2 => r = none ∧ Wf K (d + 2) mX12_fitting 7 [some (vR 369), some (vI x1), some (vI 0), none, none] [] V2 Q))) : Mf K (d + 2) mX12_fitting [vR 369, vI x1] V Q := by
  refine Mt.of2 (L := [some (vR 369), some (vI x1), none, none, none]) pnX12 rfl rfl ?_
  refine wp_aload_n dX12_fitting_0 rfl rfl ?_
  refine wp_iload_n dX12_fitting_1 rfl rfl ?_
  refine wp_inlV (d' := (d + 1)) (S := []) (as := [vI x1]) dX12_fitting_2 lX12_334 (by omega) sh369 rfl rfl (Nat.le_of_ble_eq_true rfl) ⟨Nat.le_refl _, Nat.le_refl _⟩ (Mt.of2 (L := [some (vR 369), some (vI x1)]) pnX12 rfl rfl ?_)
  refine wp_aload_n dX12_laysAll_0 rfl rfl ?_
  refine wp_iload_n dX12_laysAll_1 rfl rfl ?_
  refine wp_callV (S := []) (as := [vI x1]) dX12_laysAll_2 lX12_324 (h) (by omega) sh369 rfl rfl (Nat.le_of_ble_eq_true rfl) ⟨Nat.le_refl _, Nat.le_refl _⟩ ?_
  rintro _ _ V1 ⟨rfl, rfl, q1⟩
  show Wp _ _ _ _ _ 5 _ [] _ _ _ _ _
  refine wp_aload_n dX12_laysAll_5 rfl rfl ?_
  refine wp_callV (S := []) (as := []) dX12_laysAll_6 lX12_327 (q1) (by omega) sh369 rfl rfl (Nat.le_of_ble_eq_true rfl) ⟨Nat.le_refl _, Nat.le_refl _⟩ ?_
  rintro _ _ V2 ⟨rfl, rfl, q2⟩
  show Wp _ _ _ _ _ 9 _ [] _ _ _ _ _
  refine wp_return dX12_laysAll_9 rfl ⟨rfl, rfl⟩ ?_
  show Wp _ _ _ _ _ 5 _ [] _ _ _ _ _
  refine wp_iconst dX12_fitting_5 (by decide) ?_
  refine wp_istore_n dX12_fitting_6 rfl (by decide) rfl ?_
  exact q2
set_option maxHeartbeats 4000000 in
set_option maxRecDepth 10000 in
theorem sX12_fitting_7 {K : KK} {d : Nat} {V : Mem} {Q : Option AV → Mem → Prop} (x1 : Int) (x2 : Int) (h : ((20 < x2 → Wf K (d + 2) mX12_fitting 30 [some (vR 369), some (vI x1), some (vI 0), some (vI 0), none] [] V Q) ∧ (¬ (20 < x2) → (((0 : Int) ≤ x2 ∧ x2 < (21 : Nat)) ∧ Wf K (d + 2) mX12_fitting 7 [some (vR 369), some (vI x1), some (vI (w32 (x2 + 1))), none, none] [] (upm V 400 (Int.toNat x2) 0) Q)))) : Wf K (d + 2) mX12_fitting 7 [some (vR 369), some (vI x1), some (vI x2), none, none] [] V Q := by
  refine wp_iload_n dX12_fitting_7 rfl rfl ?_
  refine wp_bipush dX12_fitting_8 (by decide) ?_
  refine wp_icmp_gt (tgt := 26) dX12_fitting_10 rfl (fun c1 => ?_) (fun c1 => ?_)
  ·
    refine wp_iconst dX12_fitting_26 (by decide) ?_
    refine wp_istore_n dX12_fitting_27 rfl (by decide) rfl ?_
    refine wp_iconst dX12_fitting_28 (by decide) ?_
    refine wp_istore_n dX12_fitting_29 rfl (by decide) rfl ?_
    exact (h.1 c1)
  ·
    refine wp_aload_n dX12_fitting_13 rfl rfl ?_
    refine wp_getR (b := 400) dX12_fitting_14 fX12_151 rfl sh369 (by decide) rfl ?_
    refine wp_iload_n dX12_fitting_17 rfl rfl ?_
    refine wp_iconst dX12_fitting_18 (by decide) ?_
    refine wp_iast dX12_fitting_19 sh400 (h.2 c1).1 ?_
    refine wp_iinc dX12_fitting_20 rfl rfl ?_
    refine wp_goto (tgt := 7) dX12_fitting_23 rfl ?_
    exact (h.2 c1).2
set_option maxHeartbeats 4000000 in
set_option maxRecDepth 10000 in
theorem sX12_fitting_30 {K : KK} {d : Nat} {V : Mem} {Q : Option AV → Mem → Prop} (x1 : Int) (x2 : Int) (x3 : Int) (h : (((V 369 23) ≤ x3 → Q (some (vI x2)) V) ∧ (¬ ((V 369 23) ≤ x3) → Wf K (d + 2) mX12_fitting 43 [some (vR 369), some (vI x1), some (vI x2), some (vI x3), some (vI (w32 (x3 + 1)))] [] V Q))) : Wf K (d + 2) mX12_fitting 30 [some (vR 369), some (vI x1), some (vI x2), some (vI x3), none] [] V Q := by
  refine wp_iload_n dX12_fitting_30 rfl rfl ?_
  refine wp_aload_n dX12_fitting_31 rfl rfl ?_
  refine wp_getI dX12_fitting_32 fX12_304 rfl sh369 (by decide) ?_
  refine wp_icmp_ge (tgt := 94) dX12_fitting_35 rfl (fun c1 => ?_) (fun c1 => ?_)
  ·
    refine wp_iload_n dX12_fitting_94 rfl rfl ?_
    exact wp_ireturn dX12_fitting_95 rfl ⟨rfl, rfl⟩ ⟨rfl, (h.1 c1)⟩
  ·
    refine wp_iload_n dX12_fitting_38 rfl rfl ?_
    refine wp_iconst dX12_fitting_39 (by decide) ?_
    refine wp_iadd dX12_fitting_40 ?_
    refine wp_istore dX12_fitting_41 (by decide) rfl ?_
    exact (h.2 c1)
set_option maxHeartbeats 4000000 in
set_option maxRecDepth 10000 in
theorem sX12_fitting_43 {K : KK} {d : Nat} {V : Mem} {Q : Option AV → Mem → Prop} (x1 : Int) (x2 : Int) (x3 : Int) (x4 : Int) (h : (((V 369 23) < x4 → Wf K (d + 2) mX12_fitting 30 [some (vR 369), some (vI x1), some (vI x2), some (vI (w32 (x3 + 1))), none] [] V Q) ∧ (¬ ((V 369 23) < x4) → Mf K (d + 1) mX12_isAsSeen [vR 369, vI x1, vI x3, vI x4] V (fun r V2 => ∃ z2, r = some (vI z2) ∧ ((z2 = 0 → Wf K (d + 2) mX12_fitting 43 [some (vR 369), some (vI x1), some (vI x2), some (vI x3), some (vI (w32 (x4 + 1)))] [] V2 Q) ∧ (¬ (z2 = 0) → (((0 : Int) ≤ (w32 ((w32 (21 * x3)) + x4)) ∧ (w32 ((w32 (21 * x3)) + x4)) < (441 : Nat)) ∧ (((0 : Int) ≤ (V2 384 (Int.toNat (w32 ((w32 (21 * x3)) + x4)))) ∧ (V2 384 (Int.toNat (w32 ((w32 (21 * x3)) + x4)))) < (21 : Nat)) ∧ (((0 : Int) ≤ (V2 384 (Int.toNat (w32 ((w32 (21 * x3)) + x4)))) ∧ (V2 384 (Int.toNat (w32 ((w32 (21 * x3)) + x4)))) < (21 : Nat)) ∧ Wf K (d + 2) mX12_fitting 43 [some (vR 369), some (vI x1), some (vI (w32 (x2 + 1))), some (vI x3), some (vI (w32 (x4 + 1)))] [] (upm V2 400 (Int.toNat (V2 384 (Int.toNat (w32 ((w32 (21 * x3)) + x4))))) (w32 ((V2 400 (Int.toNat (V2 384 (Int.toNat (w32 ((w32 (21 * x3)) + x4)))))) + 1))) Q))))))))) : Wf K (d + 2) mX12_fitting 43 [some (vR 369), some (vI x1), some (vI x2), some (vI x3), some (vI x4)] [] V Q := by
  refine wp_iload dX12_fitting_43 rfl ?_
  refine wp_aload_n dX12_fitting_45 rfl rfl ?_
  refine wp_getI dX12_fitting_46 fX12_304 rfl sh369 (by decide) ?_
  refine wp_icmp_gt (tgt := 88) dX12_fitting_49 rfl (fun c1 => ?_) (fun c1 => ?_)
  ·
    refine wp_iinc dX12_fitting_88 rfl rfl ?_
    refine wp_goto (tgt := 30) dX12_fitting_91 rfl ?_
    exact wp_loc (L2 := [some (vR 369), some (vI x1), some (vI x2), some (vI (w32 (x3 + 1))), none]) ⟨rfl, ⟨rfl, ⟨rfl, ⟨rfl, trivial⟩⟩⟩⟩ (h.1 c1)
  ·
    refine wp_aload_n dX12_fitting_52 rfl rfl ?_
    refine wp_iload_n dX12_fitting_53 rfl rfl ?_
    refine wp_iload_n dX12_fitting_54 rfl rfl ?_
    refine wp_iload dX12_fitting_55 rfl ?_
    refine wp_callV (S := []) (as := [vI x1, vI x3, vI x4]) dX12_fitting_57 lX12_420 ((h.2 c1)) (by omega) sh369 rfl rfl (Nat.le_of_ble_eq_true rfl) ⟨Nat.le_refl _, Nat.le_refl _⟩ ?_
    rintro _ _ V2 ⟨rfl, z2, rfl, q2⟩
    show Wp _ _ _ _ _ 60 _ [vI z2] _ _ _ _ _
    refine wp_if_eq (tgt := 82) dX12_fitting_60 rfl (fun c3 => ?_) (fun c3 => ?_)
    ·
      refine wp_iinc dX12_fitting_82 rfl rfl ?_
      refine wp_goto (tgt := 43) dX12_fitting_85 rfl ?_
      exact (q2.1 c3)
    ·
      refine wp_aload_n dX12_fitting_63 rfl rfl ?_
      refine wp_getR (b := 400) dX12_fitting_64 fX12_151 rfl sh369 (by decide) rfl ?_
      refine wp_aload_n dX12_fitting_67 rfl rfl ?_
      refine wp_iload_n dX12_fitting_68 rfl rfl ?_
      refine wp_iload dX12_fitting_69 rfl ?_
      refine wp_inlV (d' := (d + 1)) (S := [vR 400]) (as := [vI x3, vI x4]) dX12_fitting_71 lX12_321 (by omega) sh369 rfl rfl (Nat.le_of_ble_eq_true rfl) ⟨Nat.le_refl _, Nat.le_refl _⟩ (Mt.of2 (L := [some (vR 369), some (vI x3), some (vI x4)]) pnX12 rfl rfl ?_)
      refine wp_aload_n dX12_longAt_0 rfl rfl ?_
      refine wp_getR (b := 384) dX12_longAt_1 fX12_103 rfl sh369 (by decide) rfl ?_
      refine wp_bipush dX12_longAt_4 (by decide) ?_
      refine wp_iload_n dX12_longAt_6 rfl rfl ?_
      refine wp_imul dX12_longAt_7 ?_
      refine wp_iload_n dX12_longAt_8 rfl rfl ?_
      refine wp_iadd dX12_longAt_9 ?_
      refine wp_iald dX12_longAt_10 sh384 (q2.2 c3).1 ?_
      refine wp_ireturn dX12_longAt_11 rfl ⟨rfl, rfl⟩ ?_
      show Wp _ _ _ _ _ 74 _ [vI (V2 384 (Int.toNat (w32 ((w32 (21 * x3)) + x4)))), vR 400] _ _ _ _ _
      refine wp_dup2 dX12_fitting_74 rfl rfl ?_
      refine wp_iald dX12_fitting_75 sh400 (q2.2 c3).2.1 ?_
      refine wp_iconst dX12_fitting_76 (by decide) ?_
      refine wp_iadd dX12_fitting_77 ?_
      refine wp_iast dX12_fitting_78 sh400 (q2.2 c3).2.2.1 ?_
      refine wp_iinc dX12_fitting_79 rfl rfl ?_
      refine wp_iinc dX12_fitting_82 rfl rfl ?_
      refine wp_goto (tgt := 43) dX12_fitting_85 rfl ?_
      exact (q2.2 c3).2.2.2
set_option maxHeartbeats 4000000 in
set_option maxRecDepth 10000 in
theorem sX12_fits {K : KK} {d : Nat} {V : Mem} {Q : Option AV → Mem → Prop} (x1 : Int) (h : Mf K d mX12_isRow [vR 369, vI x1] (upm V 369 0 0) (fun r V1 => ∃ z1, r = some (vI z1) ∧ ((z1 = 0 → Q (some (vI (-1))) V1) ∧ (¬ (z1 = 0) → Mf K d mX12_fitting [vR 369, vI x1] V1 (fun r V3 => ∃ z3, r = some (vI z3) ∧ Q (some (vI z3)) V3))))) : Mf K (d + 1) mX12_fits [vR 369, vI x1] V Q := by
  refine Mt.of2 (L := [some (vR 369), some (vI x1)]) pnX12 rfl rfl ?_
  refine wp_aload_n dX12_fits_0 rfl rfl ?_
  refine wp_iconst dX12_fits_1 (by decide) ?_
  refine wp_putI dX12_fits_2 fwX12_1 rfl sh369 (by decide) ?_
  refine wp_aload_n dX12_fits_5 rfl rfl ?_
  refine wp_iload_n dX12_fits_6 rfl rfl ?_
  refine wp_callV (S := []) (as := [vI x1]) dX12_fits_7 lX12_289 (h) (by omega) sh369 rfl rfl (Nat.le_of_ble_eq_true rfl) ⟨Nat.le_refl _, Nat.le_refl _⟩ ?_
  rintro _ _ V1 ⟨rfl, z1, rfl, q1⟩
  show Wp _ _ _ _ _ 10 _ [vI z1] _ _ _ _ _
  refine wp_if_eq (tgt := 21) dX12_fits_10 rfl (fun c2 => ?_) (fun c2 => ?_)
  ·
    refine wp_iconst dX12_fits_21 (by decide) ?_
    exact wp_ireturn dX12_fits_22 rfl ⟨rfl, rfl⟩ ⟨rfl, (q1.1 c2)⟩
  ·
    refine wp_aload_n dX12_fits_13 rfl rfl ?_
    refine wp_iload_n dX12_fits_14 rfl rfl ?_
    refine wp_callV (S := []) (as := [vI x1]) dX12_fits_15 lX12_423 ((q1.2 c2)) (by omega) sh369 rfl rfl (Nat.le_of_ble_eq_true rfl) ⟨Nat.le_refl _, Nat.le_refl _⟩ ?_
    rintro _ _ V3 ⟨rfl, z3, rfl, q3⟩
    show Wp _ _ _ _ _ 18 _ [vI z3] _ _ _ _ _
    refine wp_goto (tgt := 22) dX12_fits_18 rfl ?_
    exact wp_ireturn dX12_fits_22 rfl ⟨rfl, rfl⟩ ⟨rfl, q3⟩
set_option maxHeartbeats 4000000 in
set_option maxRecDepth 10000 in
theorem sX12_first {K : KK} {d : Nat} {V : Mem} {Q : Option AV → Mem → Prop} (x1 : Int) (h : Mf K (d + 1) mX12_isRow [vR 369, vI x1] (upm V 369 0 0) (fun r V1 => ∃ z1, r = some (vI z1) ∧ ((¬ z1 = 0 → Mf K d mX12_laysRow [vR 369, vI x1] V1 (fun r V3 => r = none ∧ Mf K d mX12_findsLongs [vR 369] V3 (fun r V4 => r = none ∧ Wf K (d + 2) mX12_first 22 [some (vR 369), some (vI x1), some (vI 0), none] [] V4 Q))) ∧ (z1 = 0 → Q (some (vI (-1))) V1)))) : Mf K (d + 2) mX12_first [vR 369, vI x1] V Q := by
  refine Mt.of2 (L := [some (vR 369), some (vI x1), none, none]) pnX12 rfl rfl ?_
  refine wp_aload_n dX12_first_0 rfl rfl ?_
  refine wp_iconst dX12_first_1 (by decide) ?_
  refine wp_putI dX12_first_2 fwX12_1 rfl sh369 (by decide) ?_
  refine wp_aload_n dX12_first_5 rfl rfl ?_
  refine wp_iload_n dX12_first_6 rfl rfl ?_
  refine wp_callV (S := []) (as := [vI x1]) dX12_first_7 lX12_289 (h) (by omega) sh369 rfl rfl (Nat.le_of_ble_eq_true rfl) ⟨Nat.le_refl _, Nat.le_refl _⟩ ?_
  rintro _ _ V1 ⟨rfl, z1, rfl, q1⟩
  show Wp _ _ _ _ _ 10 _ [vI z1] _ _ _ _ _
  refine wp_if_ne (tgt := 15) dX12_first_10 rfl (fun c2 => ?_) (fun c2 => ?_)
  ·
    refine wp_aload_n dX12_first_15 rfl rfl ?_
    refine wp_iload_n dX12_first_16 rfl rfl ?_
    refine wp_inlV (d' := (d + 1)) (S := []) (as := [vI x1]) dX12_first_17 lX12_334 (by omega) sh369 rfl rfl (Nat.le_of_ble_eq_true rfl) ⟨Nat.le_refl _, Nat.le_refl _⟩ (Mt.of2 (L := [some (vR 369), some (vI x1)]) pnX12 rfl rfl ?_)
    refine wp_aload_n dX12_laysAll_0 rfl rfl ?_
    refine wp_iload_n dX12_laysAll_1 rfl rfl ?_
    refine wp_callV (S := []) (as := [vI x1]) dX12_laysAll_2 lX12_324 ((q1.1 c2)) (by omega) sh369 rfl rfl (Nat.le_of_ble_eq_true rfl) ⟨Nat.le_refl _, Nat.le_refl _⟩ ?_
    rintro _ _ V3 ⟨rfl, rfl, q3⟩
    show Wp _ _ _ _ _ 5 _ [] _ _ _ _ _
    refine wp_aload_n dX12_laysAll_5 rfl rfl ?_
    refine wp_callV (S := []) (as := []) dX12_laysAll_6 lX12_327 (q3) (by omega) sh369 rfl rfl (Nat.le_of_ble_eq_true rfl) ⟨Nat.le_refl _, Nat.le_refl _⟩ ?_
    rintro _ _ V4 ⟨rfl, rfl, q4⟩
    show Wp _ _ _ _ _ 9 _ [] _ _ _ _ _
    refine wp_return dX12_laysAll_9 rfl ⟨rfl, rfl⟩ ?_
    show Wp _ _ _ _ _ 20 _ [] _ _ _ _ _
    refine wp_iconst dX12_first_20 (by decide) ?_
    refine wp_istore_n dX12_first_21 rfl (by decide) rfl ?_
    exact q4
  ·
    refine wp_iconst dX12_first_13 (by decide) ?_
    exact wp_ireturn dX12_first_14 rfl ⟨rfl, rfl⟩ ⟨rfl, (q1.2 c2)⟩
set_option maxHeartbeats 4000000 in
set_option maxRecDepth 10000 in
theorem sX12_first_22 {K : KK} {d : Nat} {V : Mem} {Q : Option AV → Mem → Prop} (x1 : Int) (x2 : Int) (h : (((V 369 23) ≤ x2 → Q (some (vI (-1))) V) ∧ (¬ ((V 369 23) ≤ x2) → Wf K (d + 2) mX12_first 34 [some (vR 369), some (vI x1), some (vI x2), some (vI (w32 (x2 + 1)))] [] V Q))) : Wf K (d + 2) mX12_first 22 [some (vR 369), some (vI x1), some (vI x2), none] [] V Q := by
  refine wp_iload_n dX12_first_22 rfl rfl ?_
  refine wp_aload_n dX12_first_23 rfl rfl ?_
  refine wp_getI dX12_first_24 fX12_304 rfl sh369 (by decide) ?_
  refine wp_icmp_ge (tgt := 71) dX12_first_27 rfl (fun c1 => ?_) (fun c1 => ?_)
  ·
    refine wp_iconst dX12_first_71 (by decide) ?_
    exact wp_ireturn dX12_first_72 rfl ⟨rfl, rfl⟩ ⟨rfl, (h.1 c1)⟩
  ·
    refine wp_iload_n dX12_first_30 rfl rfl ?_
    refine wp_iconst dX12_first_31 (by decide) ?_
    refine wp_iadd dX12_first_32 ?_
    refine wp_istore_n dX12_first_33 rfl (by decide) rfl ?_
    exact (h.2 c1)
set_option maxHeartbeats 4000000 in
set_option maxRecDepth 10000 in
theorem sX12_first_34 {K : KK} {d : Nat} {V : Mem} {Q : Option AV → Mem → Prop} (x1 : Int) (x2 : Int) (x3 : Int) (h : (((V 369 23) < x3 → Wf K (d + 2) mX12_first 22 [some (vR 369), some (vI x1), some (vI (w32 (x2 + 1))), none] [] V Q) ∧ (¬ ((V 369 23) < x3) → Mf K (d + 1) mX12_isAsSeen [vR 369, vI x1, vI x2, vI x3] V (fun r V2 => ∃ z2, r = some (vI z2) ∧ ((z2 = 0 → Wf K (d + 2) mX12_first 34 [some (vR 369), some (vI x1), some (vI x2), some (vI (w32 (x3 + 1)))] [] V2 Q) ∧ (¬ (z2 = 0) → Q (some (vI (w32 ((w32 (32 * x2)) + x3)))) V2)))))) : Wf K (d + 2) mX12_first 34 [some (vR 369), some (vI x1), some (vI x2), some (vI x3)] [] V Q := by
  refine wp_iload_n dX12_first_34 rfl rfl ?_
  refine wp_aload_n dX12_first_35 rfl rfl ?_
  refine wp_getI dX12_first_36 fX12_304 rfl sh369 (by decide) ?_
  refine wp_icmp_gt (tgt := 65) dX12_first_39 rfl (fun c1 => ?_) (fun c1 => ?_)
  ·
    refine wp_iinc dX12_first_65 rfl rfl ?_
    refine wp_goto (tgt := 22) dX12_first_68 rfl ?_
    exact wp_loc (L2 := [some (vR 369), some (vI x1), some (vI (w32 (x2 + 1))), none]) ⟨rfl, ⟨rfl, ⟨rfl, trivial⟩⟩⟩ (h.1 c1)
  ·
    refine wp_aload_n dX12_first_42 rfl rfl ?_
    refine wp_iload_n dX12_first_43 rfl rfl ?_
    refine wp_iload_n dX12_first_44 rfl rfl ?_
    refine wp_iload_n dX12_first_45 rfl rfl ?_
    refine wp_callV (S := []) (as := [vI x1, vI x2, vI x3]) dX12_first_46 lX12_420 ((h.2 c1)) (by omega) sh369 rfl rfl (Nat.le_of_ble_eq_true rfl) ⟨Nat.le_refl _, Nat.le_refl _⟩ ?_
    rintro _ _ V2 ⟨rfl, z2, rfl, q2⟩
    show Wp _ _ _ _ _ 49 _ [vI z2] _ _ _ _ _
    refine wp_if_eq (tgt := 59) dX12_first_49 rfl (fun c3 => ?_) (fun c3 => ?_)
    ·
      refine wp_iinc dX12_first_59 rfl rfl ?_
      refine wp_goto (tgt := 34) dX12_first_62 rfl ?_
      exact (q2.1 c3)
    ·
      refine wp_bipush dX12_first_52 (by decide) ?_
      refine wp_iload_n dX12_first_54 rfl rfl ?_
      refine wp_imul dX12_first_55 ?_
      refine wp_iload_n dX12_first_56 rfl rfl ?_
      refine wp_iadd dX12_first_57 ?_
      exact wp_ireturn dX12_first_58 rfl ⟨rfl, rfl⟩ ⟨rfl, (q2.2 c3)⟩
set_option maxHeartbeats 4000000 in
set_option maxRecDepth 10000 in
theorem sX12_ask {K : KK} {d : Nat} {V : Mem} {Q : Option AV → Mem → Prop} (x1 : Int) (h : Mf K d mX12_isRow [vR 369, vI x1] (upm V 369 0 0) (fun r V1 => ∃ z1, r = some (vI z1) ∧ ((z1 = 0 → Wf K (d + 1) mX12_ask 22 [some (vR 369), some (vI x1), none, none, none, none, none, none] [vI 0] V1 Q) ∧ (¬ (z1 = 0) → Mf K d mX12_fitting [vR 369, vI x1] V1 (fun r V3 => ∃ z3, r = some (vI z3) ∧ Wf K (d + 1) mX12_ask 22 [some (vR 369), some (vI x1), none, none, none, none, none, none] [vI z3] V3 Q))))) : Mf K (d + 1) mX12_ask [vR 369, vI x1] V Q := by
  refine Mt.of2 (L := [some (vR 369), some (vI x1), none, none, none, none, none, none]) pnX12 rfl rfl ?_
  refine wp_aload_n dX12_ask_0 rfl rfl ?_
  refine wp_iconst dX12_ask_1 (by decide) ?_
  refine wp_putI dX12_ask_2 fwX12_1 rfl sh369 (by decide) ?_
  refine wp_aload_n dX12_ask_5 rfl rfl ?_
  refine wp_iload_n dX12_ask_6 rfl rfl ?_
  refine wp_callV (S := []) (as := [vI x1]) dX12_ask_7 lX12_289 (h) (by omega) sh369 rfl rfl (Nat.le_of_ble_eq_true rfl) ⟨Nat.le_refl _, Nat.le_refl _⟩ ?_
  rintro _ _ V1 ⟨rfl, z1, rfl, q1⟩
  show Wp _ _ _ _ _ 10 _ [vI z1] _ _ _ _ _
  refine wp_if_eq (tgt := 21) dX12_ask_10 rfl (fun c2 => ?_) (fun c2 => ?_)
  ·
    refine wp_iconst dX12_ask_21 (by decide) ?_
    exact (q1.1 c2)
  ·
    refine wp_aload_n dX12_ask_13 rfl rfl ?_
    refine wp_iload_n dX12_ask_14 rfl rfl ?_
    refine wp_callV (S := []) (as := [vI x1]) dX12_ask_15 lX12_423 ((q1.2 c2)) (by omega) sh369 rfl rfl (Nat.le_of_ble_eq_true rfl) ⟨Nat.le_refl _, Nat.le_refl _⟩ ?_
    rintro _ _ V3 ⟨rfl, z3, rfl, q3⟩
    show Wp _ _ _ _ _ 18 _ [vI z3] _ _ _ _ _
    refine wp_goto (tgt := 22) dX12_ask_18 rfl ?_
    exact q3
set_option maxHeartbeats 4000000 in
set_option maxRecDepth 10000 in
theorem sX12_ask_22 {K : KK} {d : Nat} {V : Mem} {Q : Option AV → Mem → Prop} (x1 : Int) (s0 : Int) (h : Wf K (d + 1) mX12_ask 34 [some (vR 369), some (vI x1), some (vI s0), some (vI (-1)), some (vI s0), some (vI 0), some (vI 1), none] [] V Q) : Wf K (d + 1) mX12_ask 22 [some (vR 369), some (vI x1), none, none, none, none, none, none] [vI s0] V Q := by
  refine wp_istore_n dX12_ask_22 rfl (by decide) rfl ?_
  refine wp_iconst dX12_ask_23 (by decide) ?_
  refine wp_istore_n dX12_ask_24 rfl (by decide) rfl ?_
  refine wp_iload_n dX12_ask_25 rfl rfl ?_
  refine wp_istore dX12_ask_26 (by decide) rfl ?_
  refine wp_iconst dX12_ask_28 (by decide) ?_
  refine wp_istore dX12_ask_29 (by decide) rfl ?_
  refine wp_iconst dX12_ask_31 (by decide) ?_
  refine wp_istore dX12_ask_32 (by decide) rfl ?_
  exact h
set_option maxHeartbeats 4000000 in
set_option maxRecDepth 10000 in
theorem sX12_ask_34 {K : KK} {d : Nat} {V : Mem} {Q : Option AV → Mem → Prop} (x1 : Int) (x2 : Int) (x3 : Int) (x4 : Int) (x5 : Int) (x6 : Int) (h : ((20 < x6 → Q (some (vI x3)) V) ∧ (¬ (20 < x6) → (((0 : Int) ≤ (w32 (x6 - 1)) ∧ (w32 (x6 - 1)) < (21 : Nat)) ∧ (((w32 (x5 + (V 400 (Int.toNat (w32 (x6 - 1)))))) ≤ (w32 (x2 - (w32 (x5 + (V 400 (Int.toNat (w32 (x6 - 1)))))))) → Wf K (d + 1) mX12_ask 73 [some (vR 369), some (vI x1), some (vI x2), some (vI x3), some (vI x4), some (vI (w32 (x5 + (V 400 (Int.toNat (w32 (x6 - 1))))))), some (vI x6), none] [vI (w32 (x2 - (w32 (x5 + (V 400 (Int.toNat (w32 (x6 - 1))))))))] V Q) ∧ (¬ ((w32 (x5 + (V 400 (Int.toNat (w32 (x6 - 1)))))) ≤ (w32 (x2 - (w32 (x5 + (V 400 (Int.toNat (w32 (x6 - 1))))))))) → Wf K (d + 1) mX12_ask 73 [some (vR 369), some (vI x1), some (vI x2), some (vI x3), some (vI x4), some (vI (w32 (x5 + (V 400 (Int.toNat (w32 (x6 - 1))))))), some (vI x6), none] [vI (w32 (x5 + (V 400 (Int.toNat (w32 (x6 - 1))))))] V Q)))))) : Wf K (d + 1) mX12_ask 34 [some (vR 369), some (vI x1), some (vI x2), some (vI x3), some (vI x4), some (vI x5), some (vI x6), none] [] V Q := by
  refine wp_iload dX12_ask_34 rfl ?_
  refine wp_bipush dX12_ask_36 (by decide) ?_
  refine wp_icmp_gt (tgt := 119) dX12_ask_38 rfl (fun c1 => ?_) (fun c1 => ?_)
  ·
    refine wp_iload_n dX12_ask_119 rfl rfl ?_
    exact wp_ireturn dX12_ask_120 rfl ⟨rfl, rfl⟩ ⟨rfl, (h.1 c1)⟩
  ·
    refine wp_iload dX12_ask_41 rfl ?_
    refine wp_aload_n dX12_ask_43 rfl rfl ?_
    refine wp_getR (b := 400) dX12_ask_44 fX12_151 rfl sh369 (by decide) rfl ?_
    refine wp_iload dX12_ask_47 rfl ?_
    refine wp_iconst dX12_ask_49 (by decide) ?_
    refine wp_isub dX12_ask_50 ?_
    refine wp_iald dX12_ask_51 sh400 (h.2 c1).1 ?_
    refine wp_iadd dX12_ask_52 ?_
    refine wp_istore dX12_ask_53 (by decide) rfl ?_
    refine wp_iload dX12_ask_55 rfl ?_
    refine wp_iload_n dX12_ask_57 rfl rfl ?_
    refine wp_iload dX12_ask_58 rfl ?_
    refine wp_isub dX12_ask_60 ?_
    refine wp_icmp_le (tgt := 69) dX12_ask_61 rfl (fun c2 => ?_) (fun c2 => ?_)
    ·
      refine wp_iload_n dX12_ask_69 rfl rfl ?_
      refine wp_iload dX12_ask_70 rfl ?_
      refine wp_isub dX12_ask_72 ?_
      exact ((h.2 c1).2.1 c2)
    ·
      refine wp_iload dX12_ask_64 rfl ?_
      refine wp_goto (tgt := 73) dX12_ask_66 rfl ?_
      exact ((h.2 c1).2.2 c2)
set_option maxHeartbeats 4000000 in
set_option maxRecDepth 10000 in
theorem sX12_ask_73 {K : KK} {d : Nat} {V : Mem} {Q : Option AV → Mem → Prop} (x1 : Int) (x2 : Int) (x3 : Int) (x4 : Int) (x5 : Int) (x6 : Int) (s0 : Int) (h : Mf K d mX12_isRow [vR 369, vI x1] V (fun r V1 => ∃ z1, r = some (vI z1) ∧ ((z1 = 0 → Wf K (d + 1) mX12_ask 95 [some (vR 369), some (vI x1), some (vI x2), some (vI x3), some (vI x4), some (vI x5), some (vI x6), some (vI s0)] [] V1 Q) ∧ (¬ (z1 = 0) → ((x4 ≤ s0 → Wf K (d + 1) mX12_ask 95 [some (vR 369), some (vI x1), some (vI x2), some (vI x3), some (vI x4), some (vI x5), some (vI x6), some (vI s0)] [] V1 Q) ∧ (¬ (x4 ≤ s0) → Wf K (d + 1) mX12_ask 96 [some (vR 369), some (vI x1), some (vI x2), none, some (vI x4), some (vI x5), some (vI x6), some (vI s0)] [vI x6] V1 Q)))))) : Wf K (d + 1) mX12_ask 73 [some (vR 369), some (vI x1), some (vI x2), some (vI x3), some (vI x4), some (vI x5), some (vI x6), none] [vI s0] V Q := by
  refine wp_istore dX12_ask_73 (by decide) rfl ?_
  refine wp_aload_n dX12_ask_75 rfl rfl ?_
  refine wp_iload_n dX12_ask_76 rfl rfl ?_
  refine wp_callV (S := []) (as := [vI x1]) dX12_ask_77 lX12_289 (h) (by omega) sh369 rfl rfl (Nat.le_of_ble_eq_true rfl) ⟨Nat.le_refl _, Nat.le_refl _⟩ ?_
  rintro _ _ V1 ⟨rfl, z1, rfl, q1⟩
  show Wp _ _ _ _ _ 80 _ [vI z1] _ _ _ _ _
  refine wp_if_eq (tgt := 95) dX12_ask_80 rfl (fun c2 => ?_) (fun c2 => ?_)
  ·
    exact (q1.1 c2)
  ·
    refine wp_iload dX12_ask_83 rfl ?_
    refine wp_iload dX12_ask_85 rfl ?_
    refine wp_icmp_ge (tgt := 95) dX12_ask_87 rfl (fun c3 => ?_) (fun c3 => ?_)
    ·
      exact ((q1.2 c2).1 c3)
    ·
      refine wp_iload dX12_ask_90 rfl ?_
      refine wp_goto (tgt := 96) dX12_ask_92 rfl ?_
      exact wp_loc (L2 := [some (vR 369), some (vI x1), some (vI x2), none, some (vI x4), some (vI x5), some (vI x6), some (vI s0)]) ⟨rfl, ⟨rfl, ⟨rfl, ⟨rfl, ⟨rfl, ⟨rfl, ⟨rfl, trivial⟩⟩⟩⟩⟩⟩⟩ ((q1.2 c2).2 c3)
set_option maxHeartbeats 4000000 in
set_option maxRecDepth 10000 in
theorem sX12_ask_95 {K : KK} {d : Nat} {V : Mem} {Q : Option AV → Mem → Prop} (x1 : Int) (x2 : Int) (x3 : Int) (x4 : Int) (x5 : Int) (x6 : Int) (x7 : Int) (h : Wf K (d + 1) mX12_ask 96 [some (vR 369), some (vI x1), some (vI x2), none, some (vI x4), some (vI x5), some (vI x6), some (vI x7)] [vI x3] V Q) : Wf K (d + 1) mX12_ask 95 [some (vR 369), some (vI x1), some (vI x2), some (vI x3), some (vI x4), some (vI x5), some (vI x6), some (vI x7)] [] V Q := by
  refine wp_iload_n dX12_ask_95 rfl rfl ?_
  exact wp_loc (L2 := [some (vR 369), some (vI x1), some (vI x2), none, some (vI x4), some (vI x5), some (vI x6), some (vI x7)]) ⟨rfl, ⟨rfl, ⟨rfl, ⟨rfl, ⟨rfl, ⟨rfl, ⟨rfl, trivial⟩⟩⟩⟩⟩⟩⟩ h
set_option maxHeartbeats 4000000 in
set_option maxRecDepth 10000 in
theorem sX12_ask_96 {K : KK} {d : Nat} {V : Mem} {Q : Option AV → Mem → Prop} (x1 : Int) (x2 : Int) (x4 : Int) (x5 : Int) (x6 : Int) (x7 : Int) (s0 : Int) (h : ((x4 ≤ x7 → Wf K (d + 1) mX12_ask 111 [some (vR 369), some (vI x1), some (vI x2), some (vI s0), none, some (vI x5), some (vI x6), none] [vI x4] V Q) ∧ (¬ (x4 ≤ x7) → Wf K (d + 1) mX12_ask 111 [some (vR 369), some (vI x1), some (vI x2), some (vI s0), none, some (vI x5), some (vI x6), none] [vI x7] V Q))) : Wf K (d + 1) mX12_ask 96 [some (vR 369), some (vI x1), some (vI x2), none, some (vI x4), some (vI x5), some (vI x6), some (vI x7)] [vI s0] V Q := by
  refine wp_istore_n dX12_ask_96 rfl (by decide) rfl ?_
  refine wp_iload dX12_ask_97 rfl ?_
  refine wp_iload dX12_ask_99 rfl ?_
  refine wp_icmp_ge (tgt := 109) dX12_ask_101 rfl (fun c1 => ?_) (fun c1 => ?_)
  ·
    refine wp_iload dX12_ask_109 rfl ?_
    exact wp_loc (L2 := [some (vR 369), some (vI x1), some (vI x2), some (vI s0), none, some (vI x5), some (vI x6), none]) ⟨rfl, ⟨rfl, ⟨rfl, ⟨rfl, ⟨rfl, ⟨rfl, trivial⟩⟩⟩⟩⟩⟩ (h.1 c1)
  ·
    refine wp_iload dX12_ask_104 rfl ?_
    refine wp_goto (tgt := 111) dX12_ask_106 rfl ?_
    exact wp_loc (L2 := [some (vR 369), some (vI x1), some (vI x2), some (vI s0), none, some (vI x5), some (vI x6), none]) ⟨rfl, ⟨rfl, ⟨rfl, ⟨rfl, ⟨rfl, ⟨rfl, trivial⟩⟩⟩⟩⟩⟩ (h.2 c1)
set_option maxHeartbeats 4000000 in
set_option maxRecDepth 10000 in
theorem sX12_ask_111 {K : KK} {d : Nat} {V : Mem} {Q : Option AV → Mem → Prop} (x1 : Int) (x2 : Int) (x3 : Int) (x5 : Int) (x6 : Int) (s0 : Int) (h : Wf K (d + 1) mX12_ask 34 [some (vR 369), some (vI x1), some (vI x2), some (vI x3), some (vI s0), some (vI x5), some (vI (w32 (x6 + 1))), none] [] V Q) : Wf K (d + 1) mX12_ask 111 [some (vR 369), some (vI x1), some (vI x2), some (vI x3), none, some (vI x5), some (vI x6), none] [vI s0] V Q := by
  refine wp_istore dX12_ask_111 (by decide) rfl ?_
  refine wp_iinc dX12_ask_113 rfl rfl ?_
  refine wp_goto (tgt := 34) dX12_ask_116 rfl ?_
  exact h
set_option maxHeartbeats 4000000 in
set_option maxRecDepth 10000 in
theorem sX12_draw {K : KK} {d : Nat} {V : Mem} {Q : Option AV → Mem → Prop} (x1 : Int) (h : ((x1 ≠ 0) ∧ Q (some (vI (w32 (w64 ((w64 (Int.tdiv ((upm V 369 41 (w64 ((w64 ((w64 ((V 369 41) * 1103515245)) + 12345)) - w64 (w64 (Int.tdiv (w64 ((w64 ((V 369 41) * 1103515245)) + 12345)) 2147483648) * 2147483648)))) 369 41) 65536)) - w64 (w64 (Int.tdiv (w64 (Int.tdiv ((upm V 369 41 (w64 ((w64 ((w64 ((V 369 41) * 1103515245)) + 12345)) - w64 (w64 (Int.tdiv (w64 ((w64 ((V 369 41) * 1103515245)) + 12345)) 2147483648) * 2147483648)))) 369 41) 65536)) x1) * x1)))))) (upm V 369 41 (w64 ((w64 ((w64 ((V 369 41) * 1103515245)) + 12345)) - w64 (w64 (Int.tdiv (w64 ((w64 ((V 369 41) * 1103515245)) + 12345)) 2147483648) * 2147483648)))))) : Mf K d mX12_draw [vR 369, vI x1] V Q := by
  refine Mt.of2 (L := [some (vR 369), some (vI x1)]) pnX12 rfl rfl ?_
  refine wp_aload_n dX12_draw_0 rfl rfl ?_
  refine wp_aload_n dX12_draw_1 rfl rfl ?_
  refine wp_getJ dX12_draw_2 fX12_426 rfl sh369 (by decide) ?_
  refine wp_ldc2 (z := 1103515245) dX12_draw_5 kX12_430 (by decide) ?_
  refine wp_lmul dX12_draw_8 ?_
  refine wp_ldc2 (z := 12345) dX12_draw_9 kX12_432 (by decide) ?_
  refine wp_ladd dX12_draw_12 ?_
  refine wp_ldc2 (z := 2147483648) dX12_draw_13 kX12_434 (by decide) ?_
  refine wp_lrem dX12_draw_16 (by decide) ?_
  refine wp_putJ dX12_draw_17 fwX12_426 rfl sh369 (by decide) ?_
  refine wp_aload_n dX12_draw_20 rfl rfl ?_
  refine wp_getJ dX12_draw_21 fX12_426 rfl sh369 (by decide) ?_
  refine wp_ldc2 (z := 65536) dX12_draw_24 kX12_436 (by decide) ?_
  refine wp_ldiv dX12_draw_27 (by decide) ?_
  refine wp_iload_n dX12_draw_28 rfl rfl ?_
  refine wp_i2l dX12_draw_29 ?_
  refine wp_lrem dX12_draw_30 h.1 ?_
  refine wp_l2i dX12_draw_31 ?_
  exact wp_ireturn dX12_draw_32 rfl ⟨rfl, rfl⟩ ⟨rfl, h.2⟩
set_option maxHeartbeats 4000000 in
set_option maxRecDepth 10000 in
theorem sX12_drawn {K : KK} {d : Nat} {V : Mem} {Q : Option AV → Mem → Prop} (x1 : Int) (x2 : Int) (x3 : Int) (x4 : Int) (h : Mf K (d + 1) mX12_within [vI x1, vI 0, vI 9999] (upm V 369 0 0) (fun r V1 => ∃ z1, r = some (vI z1) ∧ ((z1 = 0 → Q (some (vI (-1))) V1) ∧ (¬ (z1 = 0) → Mf K (d + 1) mX12_within [vI x2, vI 1, vI 20] V1 (fun r V3 => ∃ z3, r = some (vI z3) ∧ ((z3 = 0 → Q (some (vI (-1))) V3) ∧ (¬ (z3 = 0) → Mf K (d + 1) mX12_within [vI x3, vI 1, vI 100] V3 (fun r V5 => ∃ z5, r = some (vI z5) ∧ ((z5 = 0 → Q (some (vI (-1))) V5) ∧ (¬ (z5 = 0) → Mf K (d + 1) mX12_within [vI x4, vI 0, vI 2] V5 (fun r V7 => ∃ z7, r = some (vI z7) ∧ ((¬ z7 = 0 → Wf K (d + 2) mX12_drawn 67 [some (vR 369), none, some (vI x2), some (vI x3), some (vI x4), some (vI 0), none] [] (upm (upm (upm V7 369 41 x1) 369 22 0) 369 23 x2) Q) ∧ (z7 = 0 → Q (some (vI (-1))) V7))))))))))))) : Mf K (d + 2) mX12_drawn [vR 369, vI x1, vI x2, vI x3, vI x4] V Q := by
  refine Mt.of2 (L := [some (vR 369), some (vI x1), some (vI x2), some (vI x3), some (vI x4), none, none]) pnX12 rfl rfl ?_
  refine wp_aload_n dX12_drawn_0 rfl rfl ?_
  refine wp_iconst dX12_drawn_1 (by decide) ?_
  refine wp_putI dX12_drawn_2 fwX12_1 rfl sh369 (by decide) ?_
  refine wp_iload_n dX12_drawn_5 rfl rfl ?_
  refine wp_iconst dX12_drawn_6 (by decide) ?_
  refine wp_sipush dX12_drawn_7 (by decide) ?_
  refine wp_callS (S := []) (as := [vI x1, vI 0, vI 9999]) dX12_drawn_10 lX12_358 (h) (by omega) rfl rfl (Nat.le_of_ble_eq_true rfl) ⟨Nat.le_refl _, Nat.le_refl _⟩ ?_
  rintro _ _ V1 ⟨rfl, z1, rfl, q1⟩
  show Wp _ _ _ _ _ 13 _ [vI z1] _ _ _ _ _
  refine wp_if_eq (tgt := 46) dX12_drawn_13 rfl (fun c2 => ?_) (fun c2 => ?_)
  ·
    refine wp_iconst dX12_drawn_46 (by decide) ?_
    exact wp_ireturn dX12_drawn_47 rfl ⟨rfl, rfl⟩ ⟨rfl, (q1.1 c2)⟩
  ·
    refine wp_iload_n dX12_drawn_16 rfl rfl ?_
    refine wp_iconst dX12_drawn_17 (by decide) ?_
    refine wp_bipush dX12_drawn_18 (by decide) ?_
    refine wp_callS (S := []) (as := [vI x2, vI 1, vI 20]) dX12_drawn_20 lX12_358 ((q1.2 c2)) (by omega) rfl rfl (Nat.le_of_ble_eq_true rfl) ⟨Nat.le_refl _, Nat.le_refl _⟩ ?_
    rintro _ _ V3 ⟨rfl, z3, rfl, q3⟩
    show Wp _ _ _ _ _ 23 _ [vI z3] _ _ _ _ _
    refine wp_if_eq (tgt := 46) dX12_drawn_23 rfl (fun c4 => ?_) (fun c4 => ?_)
    ·
      refine wp_iconst dX12_drawn_46 (by decide) ?_
      exact wp_ireturn dX12_drawn_47 rfl ⟨rfl, rfl⟩ ⟨rfl, (q3.1 c4)⟩
    ·
      refine wp_iload_n dX12_drawn_26 rfl rfl ?_
      refine wp_iconst dX12_drawn_27 (by decide) ?_
      refine wp_bipush dX12_drawn_28 (by decide) ?_
      refine wp_callS (S := []) (as := [vI x3, vI 1, vI 100]) dX12_drawn_30 lX12_358 ((q3.2 c4)) (by omega) rfl rfl (Nat.le_of_ble_eq_true rfl) ⟨Nat.le_refl _, Nat.le_refl _⟩ ?_
      rintro _ _ V5 ⟨rfl, z5, rfl, q5⟩
      show Wp _ _ _ _ _ 33 _ [vI z5] _ _ _ _ _
      refine wp_if_eq (tgt := 46) dX12_drawn_33 rfl (fun c6 => ?_) (fun c6 => ?_)
      ·
        refine wp_iconst dX12_drawn_46 (by decide) ?_
        exact wp_ireturn dX12_drawn_47 rfl ⟨rfl, rfl⟩ ⟨rfl, (q5.1 c6)⟩
      ·
        refine wp_iload dX12_drawn_36 rfl ?_
        refine wp_iconst dX12_drawn_38 (by decide) ?_
        refine wp_iconst dX12_drawn_39 (by decide) ?_
        refine wp_callS (S := []) (as := [vI x4, vI 0, vI 2]) dX12_drawn_40 lX12_358 ((q5.2 c6)) (by omega) rfl rfl (Nat.le_of_ble_eq_true rfl) ⟨Nat.le_refl _, Nat.le_refl _⟩ ?_
        rintro _ _ V7 ⟨rfl, z7, rfl, q7⟩
        show Wp _ _ _ _ _ 43 _ [vI z7] _ _ _ _ _
        refine wp_if_ne (tgt := 48) dX12_drawn_43 rfl (fun c8 => ?_) (fun c8 => ?_)
        ·
          refine wp_aload_n dX12_drawn_48 rfl rfl ?_
          refine wp_iload_n dX12_drawn_49 rfl rfl ?_
          refine wp_i2l dX12_drawn_50 ?_
          refine wp_putJ dX12_drawn_51 fwX12_426 rfl sh369 (by decide) ?_
          refine wp_aload_n dX12_drawn_54 rfl rfl ?_
          refine wp_iconst dX12_drawn_55 (by decide) ?_
          refine wp_putI dX12_drawn_56 fwX12_301 rfl sh369 (by decide) ?_
          refine wp_aload_n dX12_drawn_59 rfl rfl ?_
          refine wp_iload_n dX12_drawn_60 rfl rfl ?_
          refine wp_putI dX12_drawn_61 fwX12_304 rfl sh369 (by decide) ?_
          refine wp_iconst dX12_drawn_64 (by decide) ?_
          refine wp_istore dX12_drawn_65 (by decide) rfl ?_
          exact wp_loc (L2 := [some (vR 369), none, some (vI x2), some (vI x3), some (vI x4), some (vI 0), none]) ⟨rfl, ⟨rfl, ⟨rfl, ⟨rfl, ⟨rfl, trivial⟩⟩⟩⟩⟩ (q7.1 c8)
        ·
          refine wp_iconst dX12_drawn_46 (by decide) ?_
          exact wp_ireturn dX12_drawn_47 rfl ⟨rfl, rfl⟩ ⟨rfl, (q7.2 c8)⟩
set_option maxHeartbeats 4000000 in
set_option maxRecDepth 10000 in
theorem sX12_drawn_67 {K : KK} {d : Nat} {V : Mem} {Q : Option AV → Mem → Prop} (x2 : Int) (x3 : Int) (x4 : Int) (x5 : Int) (h : ((x2 ≤ x5 → Mf K (d + 1) mX12_findsLongs [vR 369] V (fun r V2 => r = none ∧ ((2 ≤ x4 → Wf K (d + 2) mX12_drawn 136 [some (vR 369), none, some (vI x2), none, none, some (vI 0), some (vI 0)] [] V2 Q) ∧ (¬ (2 ≤ x4) → ((¬ x4 = 0 → Mf K (d + 1) mX12_waysOf [vR 369, vI 0, vI x2] V2 (fun r V5 => ∃ z5, r = some (vI z5) ∧ Q (some (vI z5)) V5)) ∧ (x4 = 0 → (((0 : Int) ≤ (w32 ((w32 (21 * 0)) + x2)) ∧ (w32 ((w32 (21 * 0)) + x2)) < (441 : Nat)) ∧ Q (some (vI (V2 384 (Int.toNat (w32 ((w32 (21 * 0)) + x2)))))) V2))))))) ∧ (¬ (x2 ≤ x5) → ((x3 ≠ 0) ∧ ((0 ≤ ((upm (upm (upm (upm (upm V 369 41 (w64 ((w64 ((w64 ((V 369 41) * 1103515245)) + 12345)) - w64 (w64 (Int.tdiv (w64 ((w64 ((V 369 41) * 1103515245)) + 12345)) 2147483648) * 2147483648)))) 379 0 (w32 (w64 ((w64 (Int.tdiv ((upm V 369 41 (w64 ((w64 ((w64 ((V 369 41) * 1103515245)) + 12345)) - w64 (w64 (Int.tdiv (w64 ((w64 ((V 369 41) * 1103515245)) + 12345)) 2147483648) * 2147483648)))) 369 41) 65536)) - w64 (w64 (Int.tdiv (w64 (Int.tdiv ((upm V 369 41 (w64 ((w64 ((w64 ((V 369 41) * 1103515245)) + 12345)) - w64 (w64 (Int.tdiv (w64 ((w64 ((V 369 41) * 1103515245)) + 12345)) 2147483648) * 2147483648)))) 369 41) 65536)) x3) * x3))))) 379 1 x5) 379 2 x2) 379 3 0) 375 2) → Mf K d mX12_worthAt [vR 369, vI ((upm (upm (upm (upm (upm V 369 41 (w64 ((w64 ((w64 ((V 369 41) * 1103515245)) + 12345)) - w64 (w64 (Int.tdiv (w64 ((w64 ((V 369 41) * 1103515245)) + 12345)) 2147483648) * 2147483648)))) 379 0 (w32 (w64 ((w64 (Int.tdiv ((upm V 369 41 (w64 ((w64 ((w64 ((V 369 41) * 1103515245)) + 12345)) - w64 (w64 (Int.tdiv (w64 ((w64 ((V 369 41) * 1103515245)) + 12345)) 2147483648) * 2147483648)))) 369 41) 65536)) - w64 (w64 (Int.tdiv (w64 (Int.tdiv ((upm V 369 41 (w64 ((w64 ((w64 ((V 369 41) * 1103515245)) + 12345)) - w64 (w64 (Int.tdiv (w64 ((w64 ((V 369 41) * 1103515245)) + 12345)) 2147483648) * 2147483648)))) 369 41) 65536)) x3) * x3))))) 379 1 x5) 379 2 x2) 379 3 0) 375 2)] (upm (upm (upm (upm (upm V 369 41 (w64 ((w64 ((w64 ((V 369 41) * 1103515245)) + 12345)) - w64 (w64 (Int.tdiv (w64 ((w64 ((V 369 41) * 1103515245)) + 12345)) 2147483648) * 2147483648)))) 379 0 (w32 (w64 ((w64 (Int.tdiv ((upm V 369 41 (w64 ((w64 ((w64 ((V 369 41) * 1103515245)) + 12345)) - w64 (w64 (Int.tdiv (w64 ((w64 ((V 369 41) * 1103515245)) + 12345)) 2147483648) * 2147483648)))) 369 41) 65536)) - w64 (w64 (Int.tdiv (w64 (Int.tdiv ((upm V 369 41 (w64 ((w64 ((w64 ((V 369 41) * 1103515245)) + 12345)) - w64 (w64 (Int.tdiv (w64 ((w64 ((V 369 41) * 1103515245)) + 12345)) 2147483648) * 2147483648)))) 369 41) 65536)) x3) * x3))))) 379 1 x5) 379 2 x2) 379 3 0) (fun r V7 => ∃ z7, r = some (vI z7) ∧ (((0 : Int) ≤ x5 ∧ x5 < (20 : Nat)) ∧ Wf K (d + 2) mX12_drawn 67 [some (vR 369), none, some (vI x2), some (vI x3), some (vI x4), some (vI (w32 (x5 + 1))), none] [] (upm V7 383 (Int.toNat x5) z7) Q))) ∧ (¬ (0 ≤ ((upm (upm (upm (upm (upm V 369 41 (w64 ((w64 ((w64 ((V 369 41) * 1103515245)) + 12345)) - w64 (w64 (Int.tdiv (w64 ((w64 ((V 369 41) * 1103515245)) + 12345)) 2147483648) * 2147483648)))) 379 0 (w32 (w64 ((w64 (Int.tdiv ((upm V 369 41 (w64 ((w64 ((w64 ((V 369 41) * 1103515245)) + 12345)) - w64 (w64 (Int.tdiv (w64 ((w64 ((V 369 41) * 1103515245)) + 12345)) 2147483648) * 2147483648)))) 369 41) 65536)) - w64 (w64 (Int.tdiv (w64 (Int.tdiv ((upm V 369 41 (w64 ((w64 ((w64 ((V 369 41) * 1103515245)) + 12345)) - w64 (w64 (Int.tdiv (w64 ((w64 ((V 369 41) * 1103515245)) + 12345)) 2147483648) * 2147483648)))) 369 41) 65536)) x3) * x3))))) 379 1 x5) 379 2 x2) 379 3 0) 375 2)) → (((0 : Int) ≤ x5 ∧ x5 < (20 : Nat)) ∧ Wf K (d + 2) mX12_drawn 67 [some (vR 369), none, some (vI x2), some (vI x3), some (vI x4), some (vI (w32 (x5 + 1))), none] [] (upm (upm (upm (upm (upm (upm V 369 41 (w64 ((w64 ((w64 ((V 369 41) * 1103515245)) + 12345)) - w64 (w64 (Int.tdiv (w64 ((w64 ((V 369 41) * 1103515245)) + 12345)) 2147483648) * 2147483648)))) 379 0 (w32 (w64 ((w64 (Int.tdiv ((upm V 369 41 (w64 ((w64 ((w64 ((V 369 41) * 1103515245)) + 12345)) - w64 (w64 (Int.tdiv (w64 ((w64 ((V 369 41) * 1103515245)) + 12345)) 2147483648) * 2147483648)))) 369 41) 65536)) - w64 (w64 (Int.tdiv (w64 (Int.tdiv ((upm V 369 41 (w64 ((w64 ((w64 ((V 369 41) * 1103515245)) + 12345)) - w64 (w64 (Int.tdiv (w64 ((w64 ((V 369 41) * 1103515245)) + 12345)) 2147483648) * 2147483648)))) 369 41) 65536)) x3) * x3))))) 379 1 x5) 379 2 x2) 379 3 0) 383 (Int.toNat x5) (w32 (w64 ((w64 (Int.tdiv ((upm V 369 41 (w64 ((w64 ((w64 ((V 369 41) * 1103515245)) + 12345)) - w64 (w64 (Int.tdiv (w64 ((w64 ((V 369 41) * 1103515245)) + 12345)) 2147483648) * 2147483648)))) 369 41) 65536)) - w64 (w64 (Int.tdiv (w64 (Int.tdiv ((upm V 369 41 (w64 ((w64 ((w64 ((V 369 41) * 1103515245)) + 12345)) - w64 (w64 (Int.tdiv (w64 ((w64 ((V 369 41) * 1103515245)) + 12345)) 2147483648) * 2147483648)))) 369 41) 65536)) x3) * x3))))) Q))))))) : Wf K (d + 2) mX12_drawn 67 [some (vR 369), none, some (vI x2), some (vI x3), some (vI x4), some (vI x5), none] [] V Q := by
  refine wp_iload dX12_drawn_67 rfl ?_
  refine wp_iload_n dX12_drawn_69 rfl rfl ?_
  refine wp_icmp_ge (tgt := 99) dX12_drawn_70 rfl (fun c1 => ?_) (fun c1 => ?_)
  ·
    refine wp_aload_n dX12_drawn_99 rfl rfl ?_
    refine wp_callV (S := []) (as := []) dX12_drawn_100 lX12_327 ((h.1 c1)) (by omega) sh369 rfl rfl (Nat.le_of_ble_eq_true rfl) ⟨Nat.le_refl _, Nat.le_refl _⟩ ?_
    rintro _ _ V2 ⟨rfl, rfl, q2⟩
    show Wp _ _ _ _ _ 103 _ [] _ _ _ _ _
    refine wp_iload dX12_drawn_103 rfl ?_
    refine wp_iconst dX12_drawn_105 (by decide) ?_
    refine wp_icmp_ge (tgt := 130) dX12_drawn_106 rfl (fun c3 => ?_) (fun c3 => ?_)
    ·
      refine wp_iconst dX12_drawn_130 (by decide) ?_
      refine wp_istore dX12_drawn_131 (by decide) rfl ?_
      refine wp_iconst dX12_drawn_133 (by decide) ?_
      refine wp_istore dX12_drawn_134 (by decide) rfl ?_
      exact wp_loc (L2 := [some (vR 369), none, some (vI x2), none, none, some (vI 0), some (vI 0)]) ⟨rfl, ⟨rfl, ⟨rfl, ⟨rfl, trivial⟩⟩⟩⟩ (q2.1 c3)
    ·
      refine wp_iload dX12_drawn_109 rfl ?_
      refine wp_if_ne (tgt := 123) dX12_drawn_111 rfl (fun c4 => ?_) (fun c4 => ?_)
      ·
        refine wp_aload_n dX12_drawn_123 rfl rfl ?_
        refine wp_iconst dX12_drawn_124 (by decide) ?_
        refine wp_iload_n dX12_drawn_125 rfl rfl ?_
        refine wp_callV (S := []) (as := [vI 0, vI x2]) dX12_drawn_126 lX12_340 (((q2.2 c3).1 c4)) (by omega) sh369 rfl rfl (Nat.le_of_ble_eq_true rfl) ⟨Nat.le_refl _, Nat.le_refl _⟩ ?_
        rintro _ _ V5 ⟨rfl, z5, rfl, q5⟩
        show Wp _ _ _ _ _ 129 _ [vI z5] _ _ _ _ _
        exact wp_ireturn dX12_drawn_129 rfl ⟨rfl, rfl⟩ ⟨rfl, q5⟩
      ·
        refine wp_aload_n dX12_drawn_114 rfl rfl ?_
        refine wp_iconst dX12_drawn_115 (by decide) ?_
        refine wp_iload_n dX12_drawn_116 rfl rfl ?_
        refine wp_inlV (d' := (d + 1)) (S := []) (as := [vI 0, vI x2]) dX12_drawn_117 lX12_321 (by omega) sh369 rfl rfl (Nat.le_of_ble_eq_true rfl) ⟨Nat.le_refl _, Nat.le_refl _⟩ (Mt.of2 (L := [some (vR 369), some (vI 0), some (vI x2)]) pnX12 rfl rfl ?_)
        refine wp_aload_n dX12_longAt_0 rfl rfl ?_
        refine wp_getR (b := 384) dX12_longAt_1 fX12_103 rfl sh369 (by decide) rfl ?_
        refine wp_bipush dX12_longAt_4 (by decide) ?_
        refine wp_iload_n dX12_longAt_6 rfl rfl ?_
        refine wp_imul dX12_longAt_7 ?_
        refine wp_iload_n dX12_longAt_8 rfl rfl ?_
        refine wp_iadd dX12_longAt_9 ?_
        refine wp_iald dX12_longAt_10 sh384 ((q2.2 c3).2 c4).1 ?_
        refine wp_ireturn dX12_longAt_11 rfl ⟨rfl, rfl⟩ ?_
        show Wp _ _ _ _ _ 120 _ [vI (V2 384 (Int.toNat (w32 ((w32 (21 * 0)) + x2))))] _ _ _ _ _
        refine wp_goto (tgt := 129) dX12_drawn_120 rfl ?_
        exact wp_ireturn dX12_drawn_129 rfl ⟨rfl, rfl⟩ ⟨rfl, ((q2.2 c3).2 c4).2⟩
  ·
    refine wp_aload_n dX12_drawn_73 rfl rfl ?_
    refine wp_getR (b := 383) dX12_drawn_74 fX12_100 rfl sh369 (by decide) rfl ?_
    refine wp_iload dX12_drawn_77 rfl ?_
    refine wp_aload_n dX12_drawn_79 rfl rfl ?_
    refine wp_aload_n dX12_drawn_80 rfl rfl ?_
    refine wp_iload_n dX12_drawn_81 rfl rfl ?_
    refine wp_inlV (d' := (d + 1)) (S := [vR 369, vI x5, vR 383]) (as := [vI x3]) dX12_drawn_82 lX12_438 (by omega) sh369 rfl rfl (Nat.le_of_ble_eq_true rfl) ⟨Nat.le_refl _, Nat.le_refl _⟩ (Mt.of2 (L := [some (vR 369), some (vI x3)]) pnX12 rfl rfl ?_)
    refine wp_aload_n dX12_draw_0 rfl rfl ?_
    refine wp_aload_n dX12_draw_1 rfl rfl ?_
    refine wp_getJ dX12_draw_2 fX12_426 rfl sh369 (by decide) ?_
    refine wp_ldc2 (z := 1103515245) dX12_draw_5 kX12_430 (by decide) ?_
    refine wp_lmul dX12_draw_8 ?_
    refine wp_ldc2 (z := 12345) dX12_draw_9 kX12_432 (by decide) ?_
    refine wp_ladd dX12_draw_12 ?_
    refine wp_ldc2 (z := 2147483648) dX12_draw_13 kX12_434 (by decide) ?_
    refine wp_lrem dX12_draw_16 (by decide) ?_
    refine wp_putJ dX12_draw_17 fwX12_426 rfl sh369 (by decide) ?_
    refine wp_aload_n dX12_draw_20 rfl rfl ?_
    refine wp_getJ dX12_draw_21 fX12_426 rfl sh369 (by decide) ?_
    refine wp_ldc2 (z := 65536) dX12_draw_24 kX12_436 (by decide) ?_
    refine wp_ldiv dX12_draw_27 (by decide) ?_
    refine wp_iload_n dX12_draw_28 rfl rfl ?_
    refine wp_i2l dX12_draw_29 ?_
    refine wp_lrem dX12_draw_30 (h.2 c1).1 ?_
    refine wp_l2i dX12_draw_31 ?_
    refine wp_ireturn dX12_draw_32 rfl ⟨rfl, rfl⟩ ?_
    show Wp _ _ _ _ _ 85 _ [vI (w32 (w64 ((w64 (Int.tdiv ((upm V 369 41 (w64 ((w64 ((w64 ((V 369 41) * 1103515245)) + 12345)) - w64 (w64 (Int.tdiv (w64 ((w64 ((V 369 41) * 1103515245)) + 12345)) 2147483648) * 2147483648)))) 369 41) 65536)) - w64 (w64 (Int.tdiv (w64 (Int.tdiv ((upm V 369 41 (w64 ((w64 ((w64 ((V 369 41) * 1103515245)) + 12345)) - w64 (w64 (Int.tdiv (w64 ((w64 ((V 369 41) * 1103515245)) + 12345)) 2147483648) * 2147483648)))) 369 41) 65536)) x3) * x3)))), vR 369, vI x5, vR 383] _ _ _ _ _
    refine wp_iload dX12_drawn_85 rfl ?_
    refine wp_iload_n dX12_drawn_87 rfl rfl ?_
    refine wp_iconst dX12_drawn_88 (by decide) ?_
    refine wp_inlV (d' := (d + 1)) (S := [vI x5, vR 383]) (as := [vI (w32 (w64 ((w64 (Int.tdiv ((upm V 369 41 (w64 ((w64 ((w64 ((V 369 41) * 1103515245)) + 12345)) - w64 (w64 (Int.tdiv (w64 ((w64 ((V 369 41) * 1103515245)) + 12345)) 2147483648) * 2147483648)))) 369 41) 65536)) - w64 (w64 (Int.tdiv (w64 (Int.tdiv ((upm V 369 41 (w64 ((w64 ((w64 ((V 369 41) * 1103515245)) + 12345)) - w64 (w64 (Int.tdiv (w64 ((w64 ((V 369 41) * 1103515245)) + 12345)) 2147483648) * 2147483648)))) 369 41) 65536)) x3) * x3)))), vI x5, vI x2, vI 0]) dX12_drawn_89 lX12_310 (by omega) sh369 rfl rfl (Nat.le_of_ble_eq_true rfl) ⟨Nat.le_refl _, Nat.le_refl _⟩ (Mt.of2 (L := [some (vR 369), some (vI (w32 (w64 ((w64 (Int.tdiv ((upm V 369 41 (w64 ((w64 ((w64 ((V 369 41) * 1103515245)) + 12345)) - w64 (w64 (Int.tdiv (w64 ((w64 ((V 369 41) * 1103515245)) + 12345)) 2147483648) * 2147483648)))) 369 41) 65536)) - w64 (w64 (Int.tdiv (w64 (Int.tdiv ((upm V 369 41 (w64 ((w64 ((w64 ((V 369 41) * 1103515245)) + 12345)) - w64 (w64 (Int.tdiv (w64 ((w64 ((V 369 41) * 1103515245)) + 12345)) 2147483648) * 2147483648)))) 369 41) 65536)) x3) * x3))))), some (vI x5), some (vI x2), some (vI 0)]) pnX12 rfl rfl ?_)
    refine wp_aload_n dX12_weighs_0 rfl rfl ?_
    refine wp_getR (b := 379) dX12_weighs_1 fX12_87 rfl sh369 (by decide) rfl ?_
    refine wp_iconst dX12_weighs_4 (by decide) ?_
    refine wp_iload_n dX12_weighs_5 rfl rfl ?_
    refine wp_iast dX12_weighs_6 sh379 (by decide) ?_
    refine wp_aload_n dX12_weighs_7 rfl rfl ?_
    refine wp_getR (b := 379) dX12_weighs_8 fX12_87 rfl sh369 (by decide) rfl ?_
    refine wp_iconst dX12_weighs_11 (by decide) ?_
    refine wp_iload_n dX12_weighs_12 rfl rfl ?_
    refine wp_iast dX12_weighs_13 sh379 (by decide) ?_
    refine wp_aload_n dX12_weighs_14 rfl rfl ?_
    refine wp_getR (b := 379) dX12_weighs_15 fX12_87 rfl sh369 (by decide) rfl ?_
    refine wp_iconst dX12_weighs_18 (by decide) ?_
    refine wp_iload_n dX12_weighs_19 rfl rfl ?_
    refine wp_iast dX12_weighs_20 sh379 (by decide) ?_
    refine wp_aload_n dX12_weighs_21 rfl rfl ?_
    refine wp_getR (b := 379) dX12_weighs_22 fX12_87 rfl sh369 (by decide) rfl ?_
    refine wp_iconst dX12_weighs_25 (by decide) ?_
    refine wp_iload dX12_weighs_26 rfl ?_
    refine wp_iast dX12_weighs_28 sh379 (by decide) ?_
    refine wp_aload_n dX12_weighs_29 rfl rfl ?_
    refine wp_getR (b := 375) dX12_weighs_30 fX12_75 rfl sh369 (by decide) rfl ?_
    refine wp_iconst dX12_weighs_33 (by decide) ?_
    refine wp_iald dX12_weighs_34 sh375 (by decide) ?_
    refine wp_if_ge (tgt := 42) dX12_weighs_35 rfl (fun c6 => ?_) (fun c6 => ?_)
    ·
      refine wp_aload_n dX12_weighs_42 rfl rfl ?_
      refine wp_aload_n dX12_weighs_43 rfl rfl ?_
      refine wp_getR (b := 375) dX12_weighs_44 fX12_75 rfl sh369 (by decide) rfl ?_
      refine wp_iconst dX12_weighs_47 (by decide) ?_
      refine wp_iald dX12_weighs_48 sh375 (by decide) ?_
      refine wp_callV (S := []) (as := [vI ((upm (upm (upm (upm (upm V 369 41 (w64 ((w64 ((w64 ((V 369 41) * 1103515245)) + 12345)) - w64 (w64 (Int.tdiv (w64 ((w64 ((V 369 41) * 1103515245)) + 12345)) 2147483648) * 2147483648)))) 379 0 (w32 (w64 ((w64 (Int.tdiv ((upm V 369 41 (w64 ((w64 ((w64 ((V 369 41) * 1103515245)) + 12345)) - w64 (w64 (Int.tdiv (w64 ((w64 ((V 369 41) * 1103515245)) + 12345)) 2147483648) * 2147483648)))) 369 41) 65536)) - w64 (w64 (Int.tdiv (w64 (Int.tdiv ((upm V 369 41 (w64 ((w64 ((w64 ((V 369 41) * 1103515245)) + 12345)) - w64 (w64 (Int.tdiv (w64 ((w64 ((V 369 41) * 1103515245)) + 12345)) 2147483648) * 2147483648)))) 369 41) 65536)) x3) * x3))))) 379 1 x5) 379 2 x2) 379 3 0) 375 2)]) dX12_weighs_49 lX12_295 (((h.2 c1).2.1 c6)) (by omega) sh369 rfl rfl (Nat.le_of_ble_eq_true rfl) ⟨Nat.le_refl _, Nat.le_refl _⟩ ?_
      rintro _ _ V7 ⟨rfl, z7, rfl, q7⟩
      show Wp _ _ _ _ _ 52 _ [vI z7] _ _ _ _ _
      refine wp_ireturn dX12_weighs_52 rfl ⟨rfl, rfl⟩ ?_
      show Wp _ _ _ _ _ 92 _ [vI z7, vI x5, vR 383] _ _ _ _ _
      refine wp_iast dX12_drawn_92 sh383 q7.1 ?_
      refine wp_iinc dX12_drawn_93 rfl rfl ?_
      refine wp_goto (tgt := 67) dX12_drawn_96 rfl ?_
      exact q7.2
    ·
      refine wp_iload_n dX12_weighs_38 rfl rfl ?_
      refine wp_goto (tgt := 52) dX12_weighs_39 rfl ?_
      refine wp_ireturn dX12_weighs_52 rfl ⟨rfl, rfl⟩ ?_
      show Wp _ _ _ _ _ 92 _ [vI (w32 (w64 ((w64 (Int.tdiv ((upm V 369 41 (w64 ((w64 ((w64 ((V 369 41) * 1103515245)) + 12345)) - w64 (w64 (Int.tdiv (w64 ((w64 ((V 369 41) * 1103515245)) + 12345)) 2147483648) * 2147483648)))) 369 41) 65536)) - w64 (w64 (Int.tdiv (w64 (Int.tdiv ((upm V 369 41 (w64 ((w64 ((w64 ((V 369 41) * 1103515245)) + 12345)) - w64 (w64 (Int.tdiv (w64 ((w64 ((V 369 41) * 1103515245)) + 12345)) 2147483648) * 2147483648)))) 369 41) 65536)) x3) * x3)))), vI x5, vR 383] _ _ _ _ _
      refine wp_iast dX12_drawn_92 sh383 ((h.2 c1).2.2 c6).1 ?_
      refine wp_iinc dX12_drawn_93 rfl rfl ?_
      refine wp_goto (tgt := 67) dX12_drawn_96 rfl ?_
      exact ((h.2 c1).2.2 c6).2
set_option maxHeartbeats 4000000 in
set_option maxRecDepth 10000 in
theorem sX12_drawn_136 {K : KK} {d : Nat} {V : Mem} {Q : Option AV → Mem → Prop} (x2 : Int) (x5 : Int) (x6 : Int) (h : ((x2 ≤ x6 → Q (some (vI x5)) V) ∧ (¬ (x2 ≤ x6) → Mf K (d + 1) mX12_strandOf [vR 369, vI x6] V (fun r V2 => ∃ z2, r = some (vI z2) ∧ ((z2 < 0 → Wf K (d + 2) mX12_drawn 136 [some (vR 369), none, some (vI x2), none, none, some (vI (w32 (x5 + 0))), some (vI (w32 (x6 + 1)))] [] V2 Q) ∧ (¬ (z2 < 0) → Wf K (d + 2) mX12_drawn 136 [some (vR 369), none, some (vI x2), none, none, some (vI (w32 (x5 + 1))), some (vI (w32 (x6 + 1)))] [] V2 Q)))))) : Wf K (d + 2) mX12_drawn 136 [some (vR 369), none, some (vI x2), none, none, some (vI x5), some (vI x6)] [] V Q := by
  refine wp_iload dX12_drawn_136 rfl ?_
  refine wp_iload_n dX12_drawn_138 rfl rfl ?_
  refine wp_icmp_ge (tgt := 167) dX12_drawn_139 rfl (fun c1 => ?_) (fun c1 => ?_)
  ·
    refine wp_iload dX12_drawn_167 rfl ?_
    exact wp_ireturn dX12_drawn_169 rfl ⟨rfl, rfl⟩ ⟨rfl, (h.1 c1)⟩
  ·
    refine wp_iload dX12_drawn_142 rfl ?_
    refine wp_aload_n dX12_drawn_144 rfl rfl ?_
    refine wp_iload dX12_drawn_145 rfl ?_
    refine wp_callV (S := [vI x5]) (as := [vI x6]) dX12_drawn_147 lX12_355 ((h.2 c1)) (by omega) sh369 rfl rfl (Nat.le_of_ble_eq_true rfl) ⟨Nat.le_refl _, Nat.le_refl _⟩ ?_
    rintro _ _ V2 ⟨rfl, z2, rfl, q2⟩
    show Wp _ _ _ _ _ 150 _ [vI z2, vI x5] _ _ _ _ _
    refine wp_if_lt (tgt := 157) dX12_drawn_150 rfl (fun c3 => ?_) (fun c3 => ?_)
    ·
      refine wp_iconst dX12_drawn_157 (by decide) ?_
      refine wp_iadd dX12_drawn_158 ?_
      refine wp_istore dX12_drawn_159 (by decide) rfl ?_
      refine wp_iinc dX12_drawn_161 rfl rfl ?_
      refine wp_goto (tgt := 136) dX12_drawn_164 rfl ?_
      exact (q2.1 c3)
    ·
      refine wp_iconst dX12_drawn_153 (by decide) ?_
      refine wp_goto (tgt := 158) dX12_drawn_154 rfl ?_
      refine wp_iadd dX12_drawn_158 ?_
      refine wp_istore dX12_drawn_159 (by decide) rfl ?_
      refine wp_iinc dX12_drawn_161 rfl rfl ?_
      refine wp_goto (tgt := 136) dX12_drawn_164 rfl ?_
      exact (q2.2 c3)
set_option maxHeartbeats 4000000 in
set_option maxRecDepth 10000 in
theorem sX12_mark {K : KK} {d : Nat} {V : Mem} {Q : Option AV → Mem → Prop} (x1 : Int) (x2 : Int) (h : Mf K d mX12_within [vI x1, vI 0, vI 3] (upm V 369 0 0) (fun r V1 => ∃ z1, r = some (vI z1) ∧ ((z1 = 0 → Wf K (d + 1) mX12_mark 27 [none, none, none] [] V1 Q) ∧ (¬ (z1 = 0) → ((x2 = 0 → Wf K (d + 1) mX12_mark 29 [some (vR 369), some (vI x1), some (vI x2)] [] V1 Q) ∧ (¬ (x2 = 0) → (((0 : Int) ≤ x1 ∧ x1 < (4 : Nat)) ∧ ((¬ (V1 382 (Int.toNat x1)) = 0 → Wf K (d + 1) mX12_mark 29 [some (vR 369), some (vI x1), some (vI x2)] [] V1 Q) ∧ ((V1 382 (Int.toNat x1)) = 0 → Wf K (d + 1) mX12_mark 27 [none, none, none] [] V1 Q))))))))) : Mf K (d + 1) mX12_mark [vR 369, vI x1, vI x2] V Q := by
  refine Mt.of2 (L := [some (vR 369), some (vI x1), some (vI x2)]) pnX12 rfl rfl ?_
  refine wp_aload_n dX12_mark_0 rfl rfl ?_
  refine wp_iconst dX12_mark_1 (by decide) ?_
  refine wp_putI dX12_mark_2 fwX12_1 rfl sh369 (by decide) ?_
  refine wp_iload_n dX12_mark_5 rfl rfl ?_
  refine wp_iconst dX12_mark_6 (by decide) ?_
  refine wp_iconst dX12_mark_7 (by decide) ?_
  refine wp_callS (S := []) (as := [vI x1, vI 0, vI 3]) dX12_mark_8 lX12_358 (h) (by omega) rfl rfl (Nat.le_of_ble_eq_true rfl) ⟨Nat.le_refl _, Nat.le_refl _⟩ ?_
  rintro _ _ V1 ⟨rfl, z1, rfl, q1⟩
  show Wp _ _ _ _ _ 11 _ [vI z1] _ _ _ _ _
  refine wp_if_eq (tgt := 27) dX12_mark_11 rfl (fun c2 => ?_) (fun c2 => ?_)
  ·
    exact wp_loc (L2 := [none, none, none]) trivial (q1.1 c2)
  ·
    refine wp_iload_n dX12_mark_14 rfl rfl ?_
    refine wp_if_eq (tgt := 29) dX12_mark_15 rfl (fun c3 => ?_) (fun c3 => ?_)
    ·
      exact ((q1.2 c2).1 c3)
    ·
      refine wp_aload_n dX12_mark_18 rfl rfl ?_
      refine wp_getR (b := 382) dX12_mark_19 fX12_96 rfl sh369 (by decide) rfl ?_
      refine wp_iload_n dX12_mark_22 rfl rfl ?_
      refine wp_zald dX12_mark_23 sh382 ((q1.2 c2).2 c3).1 ?_
      refine wp_if_ne (tgt := 29) dX12_mark_24 rfl (fun c4 => ?_) (fun c4 => ?_)
      ·
        exact (((q1.2 c2).2 c3).2.1 c4)
      ·
        exact wp_loc (L2 := [none, none, none]) trivial (((q1.2 c2).2 c3).2.2 c4)
set_option maxHeartbeats 4000000 in
set_option maxRecDepth 10000 in
theorem sX12_mark_27 {K : KK} {d : Nat} {V : Mem} {Q : Option AV → Mem → Prop}  (h : Q (some (vI 0)) V) : Wf K (d + 1) mX12_mark 27 [none, none, none] [] V Q := by
  refine wp_iconst dX12_mark_27 (by decide) ?_
  exact wp_zreturn dX12_mark_28 rfl ⟨rfl, rfl⟩ (by decide) ⟨rfl, h⟩
set_option maxHeartbeats 4000000 in
set_option maxRecDepth 10000 in
theorem sX12_mark_29 {K : KK} {d : Nat} {V : Mem} {Q : Option AV → Mem → Prop} (x1 : Int) (x2 : Int) (h : (((0 : Int) ≤ x1 ∧ x1 < (4 : Nat)) ∧ ((1 : Int) = 0 ∨ (1 : Int) = 1) ∧ ((x2 = 0 → Wf K (d + 1) mX12_mark 52 [some (vR 369), some (vI x1), some (vI x2)] [vI 0, vR 369] (upm V 382 (Int.toNat x1) 1) Q) ∧ (¬ (x2 = 0) → Wf K (d + 1) mX12_mark 52 [some (vR 369), some (vI x1), some (vI x2)] [vI (w32 (206 * (w32 (1 + x1)))), vR 369] (upm V 382 (Int.toNat x1) 1) Q)))) : Wf K (d + 1) mX12_mark 29 [some (vR 369), some (vI x1), some (vI x2)] [] V Q := by
  refine wp_aload_n dX12_mark_29 rfl rfl ?_
  refine wp_getR (b := 382) dX12_mark_30 fX12_96 rfl sh369 (by decide) rfl ?_
  refine wp_iload_n dX12_mark_33 rfl rfl ?_
  refine wp_iconst dX12_mark_34 (by decide) ?_
  refine wp_zast dX12_mark_35 sh382 h.1 h.2.1 ?_
  refine wp_aload_n dX12_mark_36 rfl rfl ?_
  refine wp_iload_n dX12_mark_37 rfl rfl ?_
  refine wp_if_eq (tgt := 51) dX12_mark_38 rfl (fun c1 => ?_) (fun c1 => ?_)
  ·
    refine wp_iconst dX12_mark_51 (by decide) ?_
    exact (h.2.2.1 c1)
  ·
    refine wp_sipush dX12_mark_41 (by decide) ?_
    refine wp_iconst dX12_mark_44 (by decide) ?_
    refine wp_iload_n dX12_mark_45 rfl rfl ?_
    refine wp_iadd dX12_mark_46 ?_
    refine wp_imul dX12_mark_47 ?_
    refine wp_goto (tgt := 52) dX12_mark_48 rfl ?_
    exact (h.2.2.2 c1)
set_option maxHeartbeats 4000000 in
set_option maxRecDepth 10000 in
theorem sX12_mark_52 {K : KK} {d : Nat} {V : Mem} {Q : Option AV → Mem → Prop} (x1 : Int) (x2 : Int) (s1 : Int) (h : ((x2 = 0 → Wf K (d + 1) mX12_mark 67 [some (vR 369), none, some (vI x2)] [vI (w32 (206 * (w32 (1 + x1)))), vI s1, vR 369] V Q) ∧ (¬ (x2 = 0) → Wf K (d + 1) mX12_mark 67 [some (vR 369), none, some (vI x2)] [vI 0, vI s1, vR 369] V Q))) : Wf K (d + 1) mX12_mark 52 [some (vR 369), some (vI x1), some (vI x2)] [vI s1, vR 369] V Q := by
  refine wp_iload_n dX12_mark_52 rfl rfl ?_
  refine wp_if_eq (tgt := 60) dX12_mark_53 rfl (fun c1 => ?_) (fun c1 => ?_)
  ·
    refine wp_sipush dX12_mark_60 (by decide) ?_
    refine wp_iconst dX12_mark_63 (by decide) ?_
    refine wp_iload_n dX12_mark_64 rfl rfl ?_
    refine wp_iadd dX12_mark_65 ?_
    refine wp_imul dX12_mark_66 ?_
    exact wp_loc (L2 := [some (vR 369), none, some (vI x2)]) ⟨rfl, ⟨rfl, trivial⟩⟩ (h.1 c1)
  ·
    refine wp_iconst dX12_mark_56 (by decide) ?_
    refine wp_goto (tgt := 67) dX12_mark_57 rfl ?_
    exact wp_loc (L2 := [some (vR 369), none, some (vI x2)]) ⟨rfl, ⟨rfl, trivial⟩⟩ (h.2 c1)
set_option maxHeartbeats 4000000 in
set_option maxRecDepth 10000 in
theorem sX12_mark_67 {K : KK} {d : Nat} {V : Mem} {Q : Option AV → Mem → Prop} (x2 : Int) (s1 : Int) (s2 : Int) (h : Mf K d mX12_moves [vR 369, vI s1, vI s2, vI 206] V (fun r V1 => r = none ∧ ((x2 = 0 → Wf K (d + 1) mX12_mark 86 [none, none, none] [vI (V1 369 18), vR 369] V1 Q) ∧ (¬ (x2 = 0) → Wf K (d + 1) mX12_mark 86 [none, none, none] [vI 0, vR 369] V1 Q)))) : Wf K (d + 1) mX12_mark 67 [some (vR 369), none, some (vI x2)] [vI s2, vI s1, vR 369] V Q := by
  refine wp_sipush dX12_mark_67 (by decide) ?_
  refine wp_callV (S := []) (as := [vI s1, vI s2, vI 206]) dX12_mark_70 lX12_285 (h) (by omega) sh369 rfl rfl (Nat.le_of_ble_eq_true rfl) ⟨Nat.le_refl _, Nat.le_refl _⟩ ?_
  rintro _ _ V1 ⟨rfl, rfl, q1⟩
  show Wp _ _ _ _ _ 73 _ [] _ _ _ _ _
  refine wp_aload_n dX12_mark_73 rfl rfl ?_
  refine wp_iload_n dX12_mark_74 rfl rfl ?_
  refine wp_if_eq (tgt := 82) dX12_mark_75 rfl (fun c2 => ?_) (fun c2 => ?_)
  ·
    refine wp_aload_n dX12_mark_82 rfl rfl ?_
    refine wp_getI dX12_mark_83 fX12_282 rfl sh369 (by decide) ?_
    exact wp_loc (L2 := [none, none, none]) trivial (q1.1 c2)
  ·
    refine wp_iconst dX12_mark_78 (by decide) ?_
    refine wp_goto (tgt := 86) dX12_mark_79 rfl ?_
    exact wp_loc (L2 := [none, none, none]) trivial (q1.2 c2)
set_option maxHeartbeats 4000000 in
set_option maxRecDepth 10000 in
theorem sX12_mark_86 {K : KK} {d : Nat} {V : Mem} {Q : Option AV → Mem → Prop} (s1 : Int) (h : Q (some (vI 1)) (upm V 369 18 s1)) : Wf K (d + 1) mX12_mark 86 [none, none, none] [vI s1, vR 369] V Q := by
  refine wp_putI dX12_mark_86 fwX12_282 rfl sh369 (by decide) ?_
  refine wp_iconst dX12_mark_89 (by decide) ?_
  exact wp_zreturn dX12_mark_90 rfl ⟨rfl, rfl⟩ (by decide) ⟨rfl, h⟩
set_option maxHeartbeats 4000000 in
set_option maxRecDepth 10000 in
theorem sX12_count {K : KK} {d : Nat} {V : Mem} {Q : Option AV → Mem → Prop} (x1 : Int) (h : ((x1 = 0 → Q (some (vI ((upm V 369 0 0) 375 0))) (upm V 369 0 0)) ∧ (x1 = 1 → Q (some (vI ((upm V 369 0 0) 381 84))) (upm V 369 0 0)) ∧ (x1 = 2 → Mf K d mX12_numbersOf [vR 369, vI 0] (upm V 369 0 0) (fun r V1 => ∃ z1, r = some (vI z1) ∧ Q (some (vI z1)) V1)) ∧ (x1 = 3 → Q (some (vI ((upm V 369 0 0) 369 19))) (upm V 369 0 0)) ∧ (x1 = 4 → Q (some (vI ((upm V 369 0 0) 378 0))) (upm V 369 0 0)) ∧ (x1 = 5 → Q (some (vI ((upm V 369 0 0) 381 181))) (upm V 369 0 0)) ∧ (x1 = 6 → Q (some (vI ((upm V 369 0 0) 369 18))) (upm V 369 0 0)) ∧ (x1 = 7 → Q (some (vI ((upm V 369 0 0) 369 2))) (upm V 369 0 0)) ∧ ((x1 < 0 ∨ 7 < x1) → Q (some (vI (-1))) (upm V 369 0 0)))) : Mf K (d + 1) mX12_count [vR 369, vI x1] V Q := by
  refine Mt.of2 (L := [some (vR 369), some (vI x1)]) pnX12 rfl rfl ?_
  refine wp_aload_n dX12_count_0 rfl rfl ?_
  refine wp_iconst dX12_count_1 (by decide) ?_
  refine wp_putI dX12_count_2 fwX12_1 rfl sh369 (by decide) ?_
  refine wp_iload_n dX12_count_5 rfl rfl ?_
  refine tswS 0 7 x1 (fun o2 => ?_) (fun l2 u2 => ?_)
  ·
    refine wp_tswOut (tgt := 102) dX12_count_6 o2 rfl ?_
    refine wp_iconst dX12_count_102 (by decide) ?_
    exact wp_ireturn dX12_count_103 rfl ⟨rfl, rfl⟩ ⟨rfl, ((h.2.2.2.2.2.2.2.2) o2)⟩
  ·
    rcases (show x1 = 0 ∨ x1 = 1 ∨ x1 = 2 ∨ x1 = 3 ∨ x1 = 4 ∨ x1 = 5 ∨ x1 = 6 ∨ x1 = 7 by omega) with e2 | e2 | e2 | e2 | e2 | e2 | e2 | e2
    ·
      refine wp_tswIn (tgt := 52) dX12_count_6 l2 u2 (by rw [e2] <;> rfl) rfl ?_
      refine wp_aload_n dX12_count_52 rfl rfl ?_
      refine wp_inlV (d' := d) (S := []) (as := []) dX12_count_53 lX12_272 (by omega) sh369 rfl rfl (Nat.le_of_ble_eq_true rfl) ⟨Nat.le_refl _, Nat.le_refl _⟩ (Mt.of2 (L := [some (vR 369)]) pnX12 rfl rfl ?_)
      refine wp_aload_n dX12_rows_0 rfl rfl ?_
      refine wp_getR (b := 375) dX12_rows_1 fX12_75 rfl sh369 (by decide) rfl ?_
      refine wp_iconst dX12_rows_4 (by decide) ?_
      refine wp_iald dX12_rows_5 sh375 (by decide) ?_
      refine wp_ireturn dX12_rows_6 rfl ⟨rfl, rfl⟩ ?_
      show Wp _ _ _ _ _ 56 _ [vI ((upm V 369 0 0) 375 0)] _ _ _ _ _
      exact wp_ireturn dX12_count_56 rfl ⟨rfl, rfl⟩ ⟨rfl, ((h.1) e2)⟩
    ·
      refine wp_tswIn (tgt := 57) dX12_count_6 l2 u2 (by rw [e2] <;> rfl) rfl ?_
      refine wp_aload_n dX12_count_57 rfl rfl ?_
      refine wp_getR (b := 381) dX12_count_58 fX12_93 rfl sh369 (by decide) rfl ?_
      refine wp_bipush dX12_count_61 (by decide) ?_
      refine wp_iald dX12_count_63 sh381 (by decide) ?_
      exact wp_ireturn dX12_count_64 rfl ⟨rfl, rfl⟩ ⟨rfl, ((h.2.1) e2)⟩
    ·
      refine wp_tswIn (tgt := 65) dX12_count_6 l2 u2 (by rw [e2] <;> rfl) rfl ?_
      refine wp_aload_n dX12_count_65 rfl rfl ?_
      refine wp_iconst dX12_count_66 (by decide) ?_
      refine wp_callV (S := []) (as := [vI 0]) dX12_count_67 lX12_417 (((h.2.2.1) e2)) (by omega) sh369 rfl rfl (Nat.le_of_ble_eq_true rfl) ⟨Nat.le_refl _, Nat.le_refl _⟩ ?_
      rintro _ _ V1 ⟨rfl, z1, rfl, q1⟩
      show Wp _ _ _ _ _ 70 _ [vI z1] _ _ _ _ _
      exact wp_ireturn dX12_count_70 rfl ⟨rfl, rfl⟩ ⟨rfl, q1⟩
    ·
      refine wp_tswIn (tgt := 71) dX12_count_6 l2 u2 (by rw [e2] <;> rfl) rfl ?_
      refine wp_aload_n dX12_count_71 rfl rfl ?_
      refine wp_getI dX12_count_72 fX12_279 rfl sh369 (by decide) ?_
      exact wp_ireturn dX12_count_75 rfl ⟨rfl, rfl⟩ ⟨rfl, ((h.2.2.2.1) e2)⟩
    ·
      refine wp_tswIn (tgt := 76) dX12_count_6 l2 u2 (by rw [e2] <;> rfl) rfl ?_
      refine wp_aload_n dX12_count_76 rfl rfl ?_
      refine wp_getR (b := 378) dX12_count_77 fX12_84 rfl sh369 (by decide) rfl ?_
      refine wp_iconst dX12_count_80 (by decide) ?_
      refine wp_iald dX12_count_81 sh378 (by decide) ?_
      exact wp_ireturn dX12_count_82 rfl ⟨rfl, rfl⟩ ⟨rfl, ((h.2.2.2.2.1) e2)⟩
    ·
      refine wp_tswIn (tgt := 83) dX12_count_6 l2 u2 (by rw [e2] <;> rfl) rfl ?_
      refine wp_aload_n dX12_count_83 rfl rfl ?_
      refine wp_getR (b := 381) dX12_count_84 fX12_93 rfl sh369 (by decide) rfl ?_
      refine wp_sipush dX12_count_87 (by decide) ?_
      refine wp_iald dX12_count_90 sh381 (by decide) ?_
      exact wp_ireturn dX12_count_91 rfl ⟨rfl, rfl⟩ ⟨rfl, ((h.2.2.2.2.2.1) e2)⟩
    ·
      refine wp_tswIn (tgt := 92) dX12_count_6 l2 u2 (by rw [e2] <;> rfl) rfl ?_
      refine wp_aload_n dX12_count_92 rfl rfl ?_
      refine wp_getI dX12_count_93 fX12_282 rfl sh369 (by decide) ?_
      exact wp_ireturn dX12_count_96 rfl ⟨rfl, rfl⟩ ⟨rfl, ((h.2.2.2.2.2.2.1) e2)⟩
    ·
      refine wp_tswIn (tgt := 97) dX12_count_6 l2 u2 (by rw [e2] <;> rfl) rfl ?_
      refine wp_aload_n dX12_count_97 rfl rfl ?_
      refine wp_getI dX12_count_98 fX12_11 rfl sh369 (by decide) ?_
      exact wp_ireturn dX12_count_101 rfl ⟨rfl, rfl⟩ ⟨rfl, ((h.2.2.2.2.2.2.2.1) e2)⟩
