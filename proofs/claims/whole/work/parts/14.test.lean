set_option maxHeartbeats 4000000 in
set_option maxRecDepth 10000 in
theorem sX10_having {K : KK} {d : Nat} {V : Mem} {Q : Option AV → Mem → Prop} (x1 : Int) (h : Wf K (d + 1) mX10_having 4 [some (vR 156), some (vI x1), some (vI 0), some (vI 0), none] [] V Q) : Mf K (d + 1) mX10_having [vR 156, vI x1] V Q := by
  refine Mt.of2 (L := [some (vR 156), some (vI x1), none, none, none]) pnX10 rfl rfl ?_
  refine wp_iconst dX10_having_0 (by decide) ?_
  refine wp_istore_n dX10_having_1 rfl (by decide) rfl ?_
  refine wp_iconst dX10_having_2 (by decide) ?_
  refine wp_istore_n dX10_having_3 rfl (by decide) rfl ?_
  exact h
set_option maxHeartbeats 4000000 in
set_option maxRecDepth 10000 in
theorem sX10_having_4 {K : KK} {d : Nat} {V : Mem} {Q : Option AV → Mem → Prop} (x1 : Int) (x2 : Int) (x3 : Int) (h : (((V 156 2) < x3 → Q (some (vI x2)) V) ∧ (¬ ((V 156 2) < x3) → Wf K (d + 1) mX10_having 15 [some (vR 156), some (vI x1), some (vI x2), some (vI x3), some (vI x3)] [] V Q))) : Wf K (d + 1) mX10_having 4 [some (vR 156), some (vI x1), some (vI x2), some (vI x3), none] [] V Q := by
  refine wp_iload_n dX10_having_4 rfl rfl ?_
  refine wp_aload_n dX10_having_5 rfl rfl ?_
  refine wp_getI dX10_having_6 fX10_26 rfl sh156 (by decide) ?_
  refine wp_icmp_gt (tgt := 50) dX10_having_9 rfl (fun c1 => ?_) (fun c1 => ?_)
  ·
    refine wp_iload_n dX10_having_50 rfl rfl ?_
    exact wp_ireturn dX10_having_51 rfl ⟨rfl, rfl⟩ ⟨rfl, (h.1 c1)⟩
  ·
    refine wp_iload_n dX10_having_12 rfl rfl ?_
    refine wp_istore dX10_having_13 (by decide) rfl ?_
    exact (h.2 c1)
set_option maxHeartbeats 4000000 in
set_option maxRecDepth 10000 in
theorem sX10_having_15 {K : KK} {d : Nat} {V : Mem} {Q : Option AV → Mem → Prop} (x1 : Int) (x2 : Int) (x3 : Int) (x4 : Int) (h : (((V 156 2) < x4 → Wf K (d + 1) mX10_having 4 [some (vR 156), some (vI x1), some (vI x2), some (vI (w32 (x3 + 1))), none] [] V Q) ∧ (¬ ((V 156 2) < x4) → Mf K d mX10_lengthOf [vR 156, vI x3, vI x4] V (fun r V2 => ∃ z2, r = some (vI z2) ∧ ((¬ z2 = x1 → Wf K (d + 1) mX10_having 15 [some (vR 156), some (vI x1), some (vI x2), some (vI x3), some (vI (w32 (x4 + 1)))] [] V2 Q) ∧ (z2 = x1 → Wf K (d + 1) mX10_having 15 [some (vR 156), some (vI x1), some (vI (w32 (x2 + 1))), some (vI x3), some (vI (w32 (x4 + 1)))] [] V2 Q)))))) : Wf K (d + 1) mX10_having 15 [some (vR 156), some (vI x1), some (vI x2), some (vI x3), some (vI x4)] [] V Q := by
  refine wp_iload dX10_having_15 rfl ?_
  refine wp_aload_n dX10_having_17 rfl rfl ?_
  refine wp_getI dX10_having_18 fX10_26 rfl sh156 (by decide) ?_
  refine wp_icmp_gt (tgt := 44) dX10_having_21 rfl (fun c1 => ?_) (fun c1 => ?_)
  ·
    refine wp_iinc dX10_having_44 rfl rfl ?_
    refine wp_goto (tgt := 4) dX10_having_47 rfl ?_
    exact wp_loc (L2 := [some (vR 156), some (vI x1), some (vI x2), some (vI (w32 (x3 + 1))), none]) ⟨rfl, ⟨rfl, ⟨rfl, ⟨rfl, trivial⟩⟩⟩⟩ (h.1 c1)
  ·
    refine wp_aload_n dX10_having_24 rfl rfl ?_
    refine wp_iload_n dX10_having_25 rfl rfl ?_
    refine wp_iload dX10_having_26 rfl ?_
    refine wp_callV (S := []) (as := [vI x3, vI x4]) dX10_having_28 lX10_44 ((h.2 c1)) (by omega) sh156 rfl rfl (Nat.le_of_ble_eq_true rfl) ⟨Nat.le_refl _, Nat.le_refl _⟩ ?_
    rintro _ _ V2 ⟨rfl, z2, rfl, q2⟩
    show Wp _ _ _ _ _ 31 _ [vI z2] _ _ _ _ _
    refine wp_iload_n dX10_having_31 rfl rfl ?_
    refine wp_icmp_ne (tgt := 38) dX10_having_32 rfl (fun c3 => ?_) (fun c3 => ?_)
    ·
      refine wp_iinc dX10_having_38 rfl rfl ?_
      refine wp_goto (tgt := 15) dX10_having_41 rfl ?_
      exact (q2.1 c3)
    ·
      refine wp_iinc dX10_having_35 rfl rfl ?_
      refine wp_iinc dX10_having_38 rfl rfl ?_
      refine wp_goto (tgt := 15) dX10_having_41 rfl ?_
      exact (q2.2 c3)
set_option maxHeartbeats 4000000 in
set_option maxRecDepth 10000 in
theorem sX0_strandAt {K : KK} {d : Nat} {V : Mem} {Q : Option AV → Mem → Prop} (a0 : Nat) (x1 : Int) (h0 : IsBraid a0) (h : Wf K d mX0_strandAt 2 [some (vR a0), some (vI x1), some (vI 0)] [] V Q) : Mf K d mX0_strandAt [vR a0, vI x1] V Q := by
  refine Mt.of2 (L := [some (vR a0), some (vI x1), none]) pnX0 rfl rfl ?_
  refine wp_iconst dX0_strandAt_0 (by decide) ?_
  refine wp_istore_n dX0_strandAt_1 rfl (by decide) rfl ?_
  exact h
set_option maxHeartbeats 4000000 in
set_option maxRecDepth 10000 in
theorem sX0_strandAt_2 {K : KK} {d : Nat} {V : Mem} {Q : Option AV → Mem → Prop} (a0 : Nat) (x1 : Int) (x2 : Int) (h0 : IsBraid a0) (h : (((V a0 2) ≤ x2 → Q (some (vI (-1))) V) ∧ (¬ ((V a0 2) ≤ x2) → ((0 ≤ x2 ∧ x2 < (10 : Nat)) ∧ ((¬ (V (a0 + 1) (Int.toNat x2)) = x1 → Wf K d mX0_strandAt 2 [some (vR a0), some (vI x1), some (vI (w32 (x2 + 1)))] [] V Q) ∧ ((V (a0 + 1) (Int.toNat x2)) = x1 → Q (some (vI x2)) V)))))) : Wf K d mX0_strandAt 2 [some (vR a0), some (vI x1), some (vI x2)] [] V Q := by
  refine wp_iload_n dX0_strandAt_2 rfl rfl ?_
  refine wp_aload_n dX0_strandAt_3 rfl rfl ?_
  refine wp_getI dX0_strandAt_4 fX0_15 rfl h0.1 (by decide) ?_
  refine wp_icmp_ge (tgt := 28) dX0_strandAt_7 rfl (fun c1 => ?_) (fun c1 => ?_)
  ·
    refine wp_iconst dX0_strandAt_28 (by decide) ?_
    exact wp_ireturn dX0_strandAt_29 rfl ⟨rfl, rfl⟩ ⟨rfl, (h.1 c1)⟩
  ·
    refine wp_aload_n dX0_strandAt_10 rfl rfl ?_
    refine wp_getR (b := (a0 + 1)) dX0_strandAt_11 fX0_9 rfl h0.1 (by decide) rfl ?_
    refine wp_iload_n dX0_strandAt_14 rfl rfl ?_
    refine wp_iald dX0_strandAt_15 h0.2 (h.2 c1).1 ?_
    refine wp_iload_n dX0_strandAt_16 rfl rfl ?_
    refine wp_icmp_ne (tgt := 22) dX0_strandAt_17 rfl (fun c2 => ?_) (fun c2 => ?_)
    ·
      refine wp_iinc dX0_strandAt_22 rfl rfl ?_
      refine wp_goto (tgt := 2) dX0_strandAt_25 rfl ?_
      exact ((h.2 c1).2.1 c2)
    ·
      refine wp_iload_n dX0_strandAt_20 rfl rfl ?_
      exact wp_ireturn dX0_strandAt_21 rfl ⟨rfl, rfl⟩ ⟨rfl, ((h.2 c1).2.2 c2)⟩
set_option maxHeartbeats 4000000 in
set_option maxRecDepth 10000 in
theorem sX6_hasPlace {K : KK} {d : Nat} {V : Mem} {Q : Option AV → Mem → Prop} (a0 : Nat) (x1 : Int) (h0 : IsRow a0) (h : ((x1 < 0 → Q (some (vI 0)) V) ∧ (¬ (x1 < 0) → (((V a0 3) ≤ x1 → Q (some (vI 0)) V) ∧ (¬ ((V a0 3) ≤ x1) → ((20 ≤ x1 → Q (some (vI 0)) V) ∧ (¬ (20 ≤ x1) → Q (some (vI 1)) V))))))) : Mf K d mX6_hasPlace [vR a0, vI x1] V Q := by
  refine Mt.of2 (L := [some (vR a0), some (vI x1)]) pnX6 rfl rfl ?_
  refine wp_iload_n dX6_hasPlace_0 rfl rfl ?_
  refine wp_if_lt (tgt := 25) dX6_hasPlace_1 rfl (fun c1 => ?_) (fun c1 => ?_)
  ·
    refine wp_iconst dX6_hasPlace_25 (by decide) ?_
    exact wp_zreturn dX6_hasPlace_26 rfl ⟨rfl, rfl⟩ (by decide) ⟨rfl, (h.1 c1)⟩
  ·
    refine wp_iload_n dX6_hasPlace_4 rfl rfl ?_
    refine wp_aload_n dX6_hasPlace_5 rfl rfl ?_
    refine wp_getI dX6_hasPlace_6 fX6_15 rfl h0.1 (by decide) ?_
    refine wp_icmp_ge (tgt := 25) dX6_hasPlace_9 rfl (fun c2 => ?_) (fun c2 => ?_)
    ·
      refine wp_iconst dX6_hasPlace_25 (by decide) ?_
      exact wp_zreturn dX6_hasPlace_26 rfl ⟨rfl, rfl⟩ (by decide) ⟨rfl, ((h.2 c1).1 c2)⟩
    ·
      refine wp_iload_n dX6_hasPlace_12 rfl rfl ?_
      refine wp_aload_n dX6_hasPlace_13 rfl rfl ?_
      refine wp_getR (b := (a0 + 1)) dX6_hasPlace_14 fX6_9 rfl h0.1 (by decide) rfl ?_
      refine wp_alen dX6_hasPlace_17 h0.2 (by decide) (by decide) ?_
      refine wp_icmp_ge (tgt := 25) dX6_hasPlace_18 rfl (fun c3 => ?_) (fun c3 => ?_)
      ·
        refine wp_iconst dX6_hasPlace_25 (by decide) ?_
        exact wp_zreturn dX6_hasPlace_26 rfl ⟨rfl, rfl⟩ (by decide) ⟨rfl, (((h.2 c1).2 c2).1 c3)⟩
      ·
        refine wp_iconst dX6_hasPlace_21 (by decide) ?_
        refine wp_goto (tgt := 26) dX6_hasPlace_22 rfl ?_
        exact wp_zreturn dX6_hasPlace_26 rfl ⟨rfl, rfl⟩ (by decide) ⟨rfl, (((h.2 c1).2 c2).2 c3)⟩
set_option maxHeartbeats 4000000 in
set_option maxRecDepth 10000 in
theorem sX6_add {K : KK} {d : Nat} {V : Mem} {Q : Option AV → Mem → Prop} (a0 : Nat) (x1 : Int) (h0 : IsRow a0) (h : (((V a0 3) < 0 → Q (some (vI 0)) V) ∧ (¬ ((V a0 3) < 0) → (((V a0 3) < 20 → ((0 ≤ (V a0 3) ∧ (V a0 3) < (20 : Nat)) ∧ Q (some (vI 1)) (upm (upm V (a0 + 1) (Int.toNat (V a0 3)) x1) a0 3 (w32 (((upm V (a0 + 1) (Int.toNat (V a0 3)) x1) a0 3) + 1))))) ∧ (¬ ((V a0 3) < 20) → Q (some (vI 0)) V))))) : Mf K d mX6_add [vR a0, vI x1] V Q := by
  refine Mt.of2 (L := [some (vR a0), some (vI x1)]) pnX6 rfl rfl ?_
  refine wp_aload_n dX6_add_0 rfl rfl ?_
  refine wp_getI dX6_add_1 fX6_15 rfl h0.1 (by decide) ?_
  refine wp_if_lt (tgt := 19) dX6_add_4 rfl (fun c1 => ?_) (fun c1 => ?_)
  ·
    refine wp_iconst dX6_add_19 (by decide) ?_
    exact wp_zreturn dX6_add_20 rfl ⟨rfl, rfl⟩ (by decide) ⟨rfl, (h.1 c1)⟩
  ·
    refine wp_aload_n dX6_add_7 rfl rfl ?_
    refine wp_getI dX6_add_8 fX6_15 rfl h0.1 (by decide) ?_
    refine wp_aload_n dX6_add_11 rfl rfl ?_
    refine wp_getR (b := (a0 + 1)) dX6_add_12 fX6_9 rfl h0.1 (by decide) rfl ?_
    refine wp_alen dX6_add_15 h0.2 (by decide) (by decide) ?_
    refine wp_icmp_lt (tgt := 21) dX6_add_16 rfl (fun c2 => ?_) (fun c2 => ?_)
    ·
      refine wp_aload_n dX6_add_21 rfl rfl ?_
      refine wp_getR (b := (a0 + 1)) dX6_add_22 fX6_9 rfl h0.1 (by decide) rfl ?_
      refine wp_aload_n dX6_add_25 rfl rfl ?_
      refine wp_getI dX6_add_26 fX6_15 rfl h0.1 (by decide) ?_
      refine wp_iload_n dX6_add_29 rfl rfl ?_
      refine wp_iast dX6_add_30 h0.2 ((h.2 c1).1 c2).1 ?_
      refine wp_aload_n dX6_add_31 rfl rfl ?_
      refine wp_dup dX6_add_32 rfl ?_
      refine wp_getI dX6_add_33 fX6_15 rfl h0.1 (by decide) ?_
      refine wp_iconst dX6_add_36 (by decide) ?_
      refine wp_iadd dX6_add_37 ?_
      refine wp_putI dX6_add_38 fwX6_15 rfl h0.1 (by decide) ?_
      refine wp_iconst dX6_add_41 (by decide) ?_
      exact wp_zreturn dX6_add_42 rfl ⟨rfl, rfl⟩ (by decide) ⟨rfl, ((h.2 c1).1 c2).2⟩
    ·
      refine wp_iconst dX6_add_19 (by decide) ?_
      exact wp_zreturn dX6_add_20 rfl ⟨rfl, rfl⟩ (by decide) ⟨rfl, ((h.2 c1).2 c2)⟩
set_option maxHeartbeats 4000000 in
set_option maxRecDepth 10000 in
theorem sX0_exchangeAt {K : KK} {d : Nat} {V : Mem} {Q : Option AV → Mem → Prop} (a0 : Nat) (x1 : Int) (h0 : IsBraid a0) (h : Mf K d mX0_strandAt [vR a0, vI x1] V (fun r V1 => ∃ z1, r = some (vI z1) ∧ Mf K d mX0_strandAt [vR a0, vI (w32 (x1 + 1))] V1 (fun r V2 => ∃ z2, r = some (vI z2) ∧ ((z1 = (-1) → Q (some (vI 0)) V2) ∧ (¬ (z1 = (-1)) → ((¬ z2 = (-1) → ((0 ≤ z1 ∧ z1 < (10 : Nat)) ∧ ((0 ≤ z2 ∧ z2 < (10 : Nat)) ∧ Q (some (vI 1)) (upm (upm V2 (a0 + 1) (Int.toNat z1) (w32 (x1 + 1))) (a0 + 1) (Int.toNat z2) x1)))) ∧ (z2 = (-1) → Q (some (vI 0)) V2))))))) : Mf K (d + 1) mX0_exchangeAt [vR a0, vI x1] V Q := by
  refine Mt.of2 (L := [some (vR a0), some (vI x1), none, none]) pnX0 rfl rfl ?_
  refine wp_aload_n dX0_exchangeAt_0 rfl rfl ?_
  refine wp_iload_n dX0_exchangeAt_1 rfl rfl ?_
  refine wp_callV (S := []) (as := [vI x1]) dX0_exchangeAt_2 lX0_19 (h) (by omega) h0.1 rfl rfl (Nat.le_of_ble_eq_true rfl) ⟨Nat.le_refl _, Nat.le_refl _⟩ ?_
  rintro _ _ V1 ⟨rfl, z1, rfl, q1⟩
  show Wp _ _ _ _ _ 5 _ [vI z1] _ _ _ _ _
  refine wp_istore_n dX0_exchangeAt_5 rfl (by decide) rfl ?_
  refine wp_aload_n dX0_exchangeAt_6 rfl rfl ?_
  refine wp_iload_n dX0_exchangeAt_7 rfl rfl ?_
  refine wp_iconst dX0_exchangeAt_8 (by decide) ?_
  refine wp_iadd dX0_exchangeAt_9 ?_
  refine wp_callV (S := []) (as := [vI (w32 (x1 + 1))]) dX0_exchangeAt_10 lX0_19 (q1) (by omega) h0.1 rfl rfl (Nat.le_of_ble_eq_true rfl) ⟨Nat.le_refl _, Nat.le_refl _⟩ ?_
  rintro _ _ V2 ⟨rfl, z2, rfl, q2⟩
  show Wp _ _ _ _ _ 13 _ [vI z2] _ _ _ _ _
  refine wp_istore_n dX0_exchangeAt_13 rfl (by decide) rfl ?_
  refine wp_iload_n dX0_exchangeAt_14 rfl rfl ?_
  refine wp_iconst dX0_exchangeAt_15 (by decide) ?_
  refine wp_icmp_eq (tgt := 24) dX0_exchangeAt_16 rfl (fun c3 => ?_) (fun c3 => ?_)
  ·
    refine wp_iconst dX0_exchangeAt_24 (by decide) ?_
    exact wp_zreturn dX0_exchangeAt_25 rfl ⟨rfl, rfl⟩ (by decide) ⟨rfl, (q2.1 c3)⟩
  ·
    refine wp_iload_n dX0_exchangeAt_19 rfl rfl ?_
    refine wp_iconst dX0_exchangeAt_20 (by decide) ?_
    refine wp_icmp_ne (tgt := 26) dX0_exchangeAt_21 rfl (fun c4 => ?_) (fun c4 => ?_)
    ·
      refine wp_aload_n dX0_exchangeAt_26 rfl rfl ?_
      refine wp_getR (b := (a0 + 1)) dX0_exchangeAt_27 fX0_9 rfl h0.1 (by decide) rfl ?_
      refine wp_iload_n dX0_exchangeAt_30 rfl rfl ?_
      refine wp_iload_n dX0_exchangeAt_31 rfl rfl ?_
      refine wp_iconst dX0_exchangeAt_32 (by decide) ?_
      refine wp_iadd dX0_exchangeAt_33 ?_
      refine wp_iast dX0_exchangeAt_34 h0.2 ((q2.2 c3).1 c4).1 ?_
      refine wp_aload_n dX0_exchangeAt_35 rfl rfl ?_
      refine wp_getR (b := (a0 + 1)) dX0_exchangeAt_36 fX0_9 rfl h0.1 (by decide) rfl ?_
      refine wp_iload_n dX0_exchangeAt_39 rfl rfl ?_
      refine wp_iload_n dX0_exchangeAt_40 rfl rfl ?_
      refine wp_iast dX0_exchangeAt_41 h0.2 ((q2.2 c3).1 c4).2.1 ?_
      refine wp_iconst dX0_exchangeAt_42 (by decide) ?_
      exact wp_zreturn dX0_exchangeAt_43 rfl ⟨rfl, rfl⟩ (by decide) ⟨rfl, ((q2.2 c3).1 c4).2.2⟩
    ·
      refine wp_iconst dX0_exchangeAt_24 (by decide) ?_
      exact wp_zreturn dX0_exchangeAt_25 rfl ⟨rfl, rfl⟩ (by decide) ⟨rfl, ((q2.2 c3).2 c4)⟩
set_option maxHeartbeats 4000000 in
set_option maxRecDepth 10000 in
theorem sX0_countOf {K : KK} {d : Nat} {V : Mem} {Q : Option AV → Mem → Prop} (a0 : Nat) (x1 : Int) (x2 : Int) (h0 : IsBraid a0) (h : Wf K (d + 1) mX0_countOf 9 [some (vR a0), none, some (vI x2), some (vI 0), some (vI (max x1 0))] [] V Q) : Mf K (d + 1) mX0_countOf [vR a0, vI x1, vI x2] V Q := by
  refine Mt.of2 (L := [some (vR a0), some (vI x1), some (vI x2), none, none]) pnX0 rfl rfl ?_
  refine wp_iconst dX0_countOf_0 (by decide) ?_
  refine wp_istore_n dX0_countOf_1 rfl (by decide) rfl ?_
  refine wp_iload_n dX0_countOf_2 rfl rfl ?_
  refine wp_iconst dX0_countOf_3 (by decide) ?_
  refine wp_mmax dX0_countOf_4 lX0_27 (by omega) (Nat.le_of_ble_eq_true rfl) ⟨Nat.le_refl _, Nat.le_refl _⟩ ?_
  refine wp_istore dX0_countOf_7 (by decide) rfl ?_
  exact wp_loc (L2 := [some (vR a0), none, some (vI x2), some (vI 0), some (vI (max x1 0))]) ⟨rfl, ⟨rfl, ⟨rfl, ⟨rfl, trivial⟩⟩⟩⟩ h
set_option maxHeartbeats 4000000 in
set_option maxRecDepth 10000 in
theorem sX0_countOf_9 {K : KK} {d : Nat} {V : Mem} {Q : Option AV → Mem → Prop} (a0 : Nat) (x2 : Int) (x3 : Int) (x4 : Int) (h0 : IsBraid a0) (h : (((V a0 2) ≤ x4 → Q (some (vI x3)) V) ∧ (¬ ((V a0 2) ≤ x4) → ((0 ≤ x4 ∧ x4 < (10 : Nat)) ∧ ((x2 ≤ (V (a0 + 1) (Int.toNat x4)) → Wf K (d + 1) mX0_countOf 9 [some (vR a0), none, some (vI x2), some (vI x3), some (vI (w32 (x4 + 1)))] [] V Q) ∧ (¬ (x2 ≤ (V (a0 + 1) (Int.toNat x4))) → Wf K (d + 1) mX0_countOf 9 [some (vR a0), none, some (vI x2), some (vI (w32 (x3 + 1))), some (vI (w32 (x4 + 1)))] [] V Q)))))) : Wf K (d + 1) mX0_countOf 9 [some (vR a0), none, some (vI x2), some (vI x3), some (vI x4)] [] V Q := by
  refine wp_iload dX0_countOf_9 rfl ?_
  refine wp_aload_n dX0_countOf_11 rfl rfl ?_
  refine wp_getI dX0_countOf_12 fX0_15 rfl h0.1 (by decide) ?_
  refine wp_icmp_ge (tgt := 38) dX0_countOf_15 rfl (fun c1 => ?_) (fun c1 => ?_)
  ·
    refine wp_iload_n dX0_countOf_38 rfl rfl ?_
    exact wp_ireturn dX0_countOf_39 rfl ⟨rfl, rfl⟩ ⟨rfl, (h.1 c1)⟩
  ·
    refine wp_aload_n dX0_countOf_18 rfl rfl ?_
    refine wp_getR (b := (a0 + 1)) dX0_countOf_19 fX0_9 rfl h0.1 (by decide) rfl ?_
    refine wp_iload dX0_countOf_22 rfl ?_
    refine wp_iald dX0_countOf_24 h0.2 (h.2 c1).1 ?_
    refine wp_iload_n dX0_countOf_25 rfl rfl ?_
    refine wp_icmp_ge (tgt := 32) dX0_countOf_26 rfl (fun c2 => ?_) (fun c2 => ?_)
    ·
      refine wp_iinc dX0_countOf_32 rfl rfl ?_
      refine wp_goto (tgt := 9) dX0_countOf_35 rfl ?_
      exact ((h.2 c1).2.1 c2)
    ·
      refine wp_iinc dX0_countOf_29 rfl rfl ?_
      refine wp_iinc dX0_countOf_32 rfl rfl ?_
      refine wp_goto (tgt := 9) dX0_countOf_35 rfl ?_
      exact ((h.2 c1).2.2 c2)
set_option maxHeartbeats 4000000 in
set_option maxRecDepth 10000 in
theorem sX7_rowAt {K : KK} {d : Nat} {V : Mem} {Q : Option AV → Mem → Prop} (a0 : Nat) (x1 : Int) (h0 : IsStore a0) (h : ((x1 < 0 → Q (some vN) V) ∧ (¬ (x1 < 0) → (((V a0 5) ≤ x1 → Q (some vN) V) ∧ (¬ ((V a0 5) ≤ x1) → ((0 ≤ x1 ∧ x1 < (4 : Nat)) ∧ Q (some (vR (a0 + 6 + 2 * Int.toNat x1))) V)))))) : Mf K d mX7_rowAt [vR a0, vI x1] V Q := by
  refine Mt.of2 (L := [some (vR a0), some (vI x1)]) pnX7 rfl rfl ?_
  refine wp_iload_n dX7_rowAt_0 rfl rfl ?_
  refine wp_if_lt (tgt := 21) dX7_rowAt_1 rfl (fun c1 => ?_) (fun c1 => ?_)
  ·
    refine wp_null dX7_rowAt_21 ?_
    exact wp_areturn dX7_rowAt_22 rfl ⟨rfl, rfl⟩ ⟨rfl, (h.1 c1)⟩
  ·
    refine wp_iload_n dX7_rowAt_4 rfl rfl ?_
    refine wp_aload_n dX7_rowAt_5 rfl rfl ?_
    refine wp_getI dX7_rowAt_6 fX7_36 rfl h0.1 (by decide) ?_
    refine wp_icmp_ge (tgt := 21) dX7_rowAt_9 rfl (fun c2 => ?_) (fun c2 => ?_)
    ·
      refine wp_null dX7_rowAt_21 ?_
      exact wp_areturn dX7_rowAt_22 rfl ⟨rfl, rfl⟩ ⟨rfl, ((h.2 c1).1 c2)⟩
    ·
      refine wp_aload_n dX7_rowAt_12 rfl rfl ?_
      refine wp_getR (b := (a0 + 1)) dX7_rowAt_13 fX7_11 rfl h0.1 (by decide) rfl ?_
      refine wp_iload_n dX7_rowAt_16 rfl rfl ?_
      have g3 : 0 ≤ x1 ∧ x1 < (4 : Nat) := ((h.2 c1).2 c2).1
      refine wp_aald (b := (a0 + 6 + 2 * Int.toNat x1)) dX7_rowAt_17 h0.2.1 (by decide) g3 (ap_get (b := a0 + 6) (s := 2) (n := 4) g3) ?_
      refine wp_goto (tgt := 22) dX7_rowAt_18 rfl ?_
      exact wp_areturn dX7_rowAt_22 rfl ⟨rfl, rfl⟩ ⟨rfl, ((h.2 c1).2 c2).2⟩
