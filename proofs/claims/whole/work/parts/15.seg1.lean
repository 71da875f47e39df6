/-! ===== segments X0 X6 X3 X4 X7 X9, by program ===== -/
set_option maxHeartbeats 4000000 in
set_option maxRecDepth 10000 in
theorem sX0_hasStrand {K : KK} {d : Nat} {V : Mem} {Q : Option AV → Mem → Prop} (a0 : Nat) (x1 : Int) (h0 : IsBraid a0) (h : ((x1 < 0 → Q (some (vI 0)) V) ∧ (¬ (x1 < 0) → (((V a0 2) ≤ x1 → Q (some (vI 0)) V) ∧ (¬ ((V a0 2) ≤ x1) → ((10 ≤ x1 → Q (some (vI 0)) V) ∧ (¬ (10 ≤ x1) → Q (some (vI 1)) V))))))) : Mf K d mX0_hasStrand [vR a0, vI x1] V Q := by
  refine Mt.of2 (L := [some (vR a0), some (vI x1)]) pnX0 rfl rfl ?_
  refine wp_iload_n dX0_hasStrand_0 rfl rfl ?_
  refine wp_if_lt (tgt := 25) dX0_hasStrand_1 rfl (fun c1 => ?_) (fun c1 => ?_)
  ·
    refine wp_iconst dX0_hasStrand_25 (by decide) ?_
    exact wp_zreturn dX0_hasStrand_26 rfl ⟨rfl, rfl⟩ (by decide) ⟨rfl, (h.1 c1)⟩
  ·
    refine wp_iload_n dX0_hasStrand_4 rfl rfl ?_
    refine wp_aload_n dX0_hasStrand_5 rfl rfl ?_
    refine wp_getI dX0_hasStrand_6 fX0_15 rfl h0.1 (by decide) ?_
    refine wp_icmp_ge (tgt := 25) dX0_hasStrand_9 rfl (fun c2 => ?_) (fun c2 => ?_)
    ·
      refine wp_iconst dX0_hasStrand_25 (by decide) ?_
      exact wp_zreturn dX0_hasStrand_26 rfl ⟨rfl, rfl⟩ (by decide) ⟨rfl, ((h.2 c1).1 c2)⟩
    ·
      refine wp_iload_n dX0_hasStrand_12 rfl rfl ?_
      refine wp_aload_n dX0_hasStrand_13 rfl rfl ?_
      refine wp_getR (b := (a0 + 1)) dX0_hasStrand_14 fX0_9 rfl h0.1 (by decide) rfl ?_
      refine wp_alen dX0_hasStrand_17 h0.2 (by decide) (by decide) ?_
      refine wp_icmp_ge (tgt := 25) dX0_hasStrand_18 rfl (fun c3 => ?_) (fun c3 => ?_)
      ·
        refine wp_iconst dX0_hasStrand_25 (by decide) ?_
        exact wp_zreturn dX0_hasStrand_26 rfl ⟨rfl, rfl⟩ (by decide) ⟨rfl, (((h.2 c1).2 c2).1 c3)⟩
      ·
        refine wp_iconst dX0_hasStrand_21 (by decide) ?_
        refine wp_goto (tgt := 26) dX0_hasStrand_22 rfl ?_
        exact wp_zreturn dX0_hasStrand_26 rfl ⟨rfl, rfl⟩ (by decide) ⟨rfl, (((h.2 c1).2 c2).2 c3)⟩
set_option maxHeartbeats 4000000 in
set_option maxRecDepth 10000 in
theorem sX0_addStrand {K : KK} {d : Nat} {V : Mem} {Q : Option AV → Mem → Prop} (a0 : Nat) (x1 : Int) (h0 : IsBraid a0) (h : (((V a0 2) < 0 → Q (some (vI 0)) V) ∧ (¬ ((V a0 2) < 0) → (((V a0 2) < 10 → (((0 : Int) ≤ (V a0 2) ∧ (V a0 2) < (10 : Nat)) ∧ Q (some (vI 1)) (upm (upm V (a0 + 1) (Int.toNat (V a0 2)) x1) a0 2 (w32 (((upm V (a0 + 1) (Int.toNat (V a0 2)) x1) a0 2) + 1))))) ∧ (¬ ((V a0 2) < 10) → Q (some (vI 0)) V))))) : Mf K d mX0_addStrand [vR a0, vI x1] V Q := by
  refine Mt.of2 (L := [some (vR a0), some (vI x1)]) pnX0 rfl rfl ?_
  refine wp_aload_n dX0_addStrand_0 rfl rfl ?_
  refine wp_getI dX0_addStrand_1 fX0_15 rfl h0.1 (by decide) ?_
  refine wp_if_lt (tgt := 19) dX0_addStrand_4 rfl (fun c1 => ?_) (fun c1 => ?_)
  ·
    refine wp_iconst dX0_addStrand_19 (by decide) ?_
    exact wp_zreturn dX0_addStrand_20 rfl ⟨rfl, rfl⟩ (by decide) ⟨rfl, (h.1 c1)⟩
  ·
    refine wp_aload_n dX0_addStrand_7 rfl rfl ?_
    refine wp_getI dX0_addStrand_8 fX0_15 rfl h0.1 (by decide) ?_
    refine wp_aload_n dX0_addStrand_11 rfl rfl ?_
    refine wp_getR (b := (a0 + 1)) dX0_addStrand_12 fX0_9 rfl h0.1 (by decide) rfl ?_
    refine wp_alen dX0_addStrand_15 h0.2 (by decide) (by decide) ?_
    refine wp_icmp_lt (tgt := 21) dX0_addStrand_16 rfl (fun c2 => ?_) (fun c2 => ?_)
    ·
      refine wp_aload_n dX0_addStrand_21 rfl rfl ?_
      refine wp_getR (b := (a0 + 1)) dX0_addStrand_22 fX0_9 rfl h0.1 (by decide) rfl ?_
      refine wp_aload_n dX0_addStrand_25 rfl rfl ?_
      refine wp_getI dX0_addStrand_26 fX0_15 rfl h0.1 (by decide) ?_
      refine wp_iload_n dX0_addStrand_29 rfl rfl ?_
      refine wp_iast dX0_addStrand_30 h0.2 ((h.2 c1).1 c2).1 ?_
      refine wp_aload_n dX0_addStrand_31 rfl rfl ?_
      refine wp_dup dX0_addStrand_32 rfl ?_
      refine wp_getI dX0_addStrand_33 fX0_15 rfl h0.1 (by decide) ?_
      refine wp_iconst dX0_addStrand_36 (by decide) ?_
      refine wp_iadd dX0_addStrand_37 ?_
      refine wp_putI dX0_addStrand_38 fwX0_15 rfl h0.1 (by decide) ?_
      refine wp_iconst dX0_addStrand_41 (by decide) ?_
      exact wp_zreturn dX0_addStrand_42 rfl ⟨rfl, rfl⟩ (by decide) ⟨rfl, ((h.2 c1).1 c2).2⟩
    ·
      refine wp_iconst dX0_addStrand_19 (by decide) ?_
      exact wp_zreturn dX0_addStrand_20 rfl ⟨rfl, rfl⟩ (by decide) ⟨rfl, ((h.2 c1).2 c2)⟩
set_option maxHeartbeats 4000000 in
set_option maxRecDepth 10000 in
theorem sX0_strandAt {K : KK} {d : Nat} {V : Mem} {Q : Option AV → Mem → Prop} (a0 : Nat) (x1 : Int) (h0 : IsBraid a0) (h : Wf K d mX0_strandAt 2 [some (vR a0), some (vI x1), some (vI 0)] [] V Q) : Mf K d mX0_strandAt [vR a0, vI x1] V Q := by
  refine Mt.of2 (L := [some (vR a0), some (vI x1), none]) pnX0 rfl rfl ?_
  refine wp_iconst dX0_strandAt_0 (by decide) ?_
  refine wp_istore_n dX0_strandAt_1 rfl (by decide) rfl ?_
  exact h
set_option maxHeartbeats 4000000 in
set_option maxRecDepth 10000 in
theorem sX0_strandAt_2 {K : KK} {d : Nat} {V : Mem} {Q : Option AV → Mem → Prop} (a0 : Nat) (x1 : Int) (x2 : Int) (h0 : IsBraid a0) (h : (((V a0 2) ≤ x2 → Q (some (vI (-1))) V) ∧ (¬ ((V a0 2) ≤ x2) → (((0 : Int) ≤ x2 ∧ x2 < (10 : Nat)) ∧ ((¬ (V (a0 + 1) (Int.toNat x2)) = x1 → Wf K d mX0_strandAt 2 [some (vR a0), some (vI x1), some (vI (w32 (x2 + 1)))] [] V Q) ∧ ((V (a0 + 1) (Int.toNat x2)) = x1 → Q (some (vI x2)) V)))))) : Wf K d mX0_strandAt 2 [some (vR a0), some (vI x1), some (vI x2)] [] V Q := by
  refine wp_iload_n dX0_strandAt_2 rfl rfl ?_
  refine wp_aload_n dX0_strandAt_3 rfl rfl ?_
  refine wp_getI dX0_strandAt_4 fX0_15 rfl h0.1 (by decide) ?_
  refine wp_icmp_ge (tgt := 28) dX0_strandAt_7 rfl (fun c1 => ?_) (fun c1 => ?_)
  ·
    refine wp_iconst dX0_strandAt_28 (by decide) ?_
    exact wp_ireturn dX0_strandAt_29 rfl ⟨rfl, rfl⟩ ⟨rfl, (h.1 c1)⟩
  ·
    refine wp_aload_n dX0_strandAt_10 rfl rfl ?_
    refine wp_getR (b := (a0 + 1)) dX0_strandAt_11 fX0_9 rfl h0.1 (by decide) rfl ?_
    refine wp_iload_n dX0_strandAt_14 rfl rfl ?_
    refine wp_iald dX0_strandAt_15 h0.2 (h.2 c1).1 ?_
    refine wp_iload_n dX0_strandAt_16 rfl rfl ?_
    refine wp_icmp_ne (tgt := 22) dX0_strandAt_17 rfl (fun c2 => ?_) (fun c2 => ?_)
    ·
      refine wp_iinc dX0_strandAt_22 rfl rfl ?_
      refine wp_goto (tgt := 2) dX0_strandAt_25 rfl ?_
      exact ((h.2 c1).2.1 c2)
    ·
      refine wp_iload_n dX0_strandAt_20 rfl rfl ?_
      exact wp_ireturn dX0_strandAt_21 rfl ⟨rfl, rfl⟩ ⟨rfl, ((h.2 c1).2.2 c2)⟩
set_option maxHeartbeats 4000000 in
set_option maxRecDepth 10000 in
theorem sX0_isWhole {K : KK} {d : Nat} {V : Mem} {Q : Option AV → Mem → Prop} (a0 : Nat) (h0 : IsBraid a0) (h : Wf K d mX0_isWhole 2 [some (vR a0), some (vI 0)] [] V Q) : Mf K d mX0_isWhole [vR a0] V Q := by
  refine Mt.of2 (L := [some (vR a0), none]) pnX0 rfl rfl ?_
  refine wp_iconst dX0_isWhole_0 (by decide) ?_
  refine wp_istore_n dX0_isWhole_1 rfl (by decide) rfl ?_
  exact h
set_option maxHeartbeats 4000000 in
set_option maxRecDepth 10000 in
theorem sX0_isWhole_2 {K : KK} {d : Nat} {V : Mem} {Q : Option AV → Mem → Prop} (a0 : Nat) (x1 : Int) (h0 : IsBraid a0) (h : (((V a0 2) ≤ x1 → Q (some (vI 1)) V) ∧ (¬ ((V a0 2) ≤ x1) → (((0 : Int) ≤ x1 ∧ x1 < (10 : Nat)) ∧ (((V (a0 + 1) (Int.toNat x1)) < (V a0 2) → Wf K d mX0_isWhole 2 [some (vR a0), some (vI (w32 (x1 + 1)))] [] V Q) ∧ (¬ ((V (a0 + 1) (Int.toNat x1)) < (V a0 2)) → Q (some (vI 0)) V)))))) : Wf K d mX0_isWhole 2 [some (vR a0), some (vI x1)] [] V Q := by
  refine wp_iload_n dX0_isWhole_2 rfl rfl ?_
  refine wp_aload_n dX0_isWhole_3 rfl rfl ?_
  refine wp_getI dX0_isWhole_4 fX0_15 rfl h0.1 (by decide) ?_
  refine wp_icmp_ge (tgt := 31) dX0_isWhole_7 rfl (fun c1 => ?_) (fun c1 => ?_)
  ·
    refine wp_iconst dX0_isWhole_31 (by decide) ?_
    exact wp_zreturn dX0_isWhole_32 rfl ⟨rfl, rfl⟩ (by decide) ⟨rfl, (h.1 c1)⟩
  ·
    refine wp_aload_n dX0_isWhole_10 rfl rfl ?_
    refine wp_getR (b := (a0 + 1)) dX0_isWhole_11 fX0_9 rfl h0.1 (by decide) rfl ?_
    refine wp_iload_n dX0_isWhole_14 rfl rfl ?_
    refine wp_iald dX0_isWhole_15 h0.2 (h.2 c1).1 ?_
    refine wp_aload_n dX0_isWhole_16 rfl rfl ?_
    refine wp_getI dX0_isWhole_17 fX0_15 rfl h0.1 (by decide) ?_
    refine wp_icmp_lt (tgt := 25) dX0_isWhole_20 rfl (fun c2 => ?_) (fun c2 => ?_)
    ·
      refine wp_iinc dX0_isWhole_25 rfl rfl ?_
      refine wp_goto (tgt := 2) dX0_isWhole_28 rfl ?_
      exact ((h.2 c1).2.1 c2)
    ·
      refine wp_iconst dX0_isWhole_23 (by decide) ?_
      exact wp_zreturn dX0_isWhole_24 rfl ⟨rfl, rfl⟩ (by decide) ⟨rfl, ((h.2 c1).2.2 c2)⟩
set_option maxHeartbeats 4000000 in
set_option maxRecDepth 10000 in
theorem sX0_crossAt {K : KK} {d : Nat} {V : Mem} {Q : Option AV → Mem → Prop} (a0 : Nat) (x1 : Int) (h0 : IsBraid a0) (h : Mf K d mX0_strandAt [vR a0, vI x1] V (fun r V1 => ∃ z1, r = some (vI z1) ∧ Mf K d mX0_strandAt [vR a0, vI (w32 (x1 + 1))] V1 (fun r V2 => ∃ z2, r = some (vI z2) ∧ ((z1 ≤ z2 → Mf K d mX0_exchangeAt [vR a0, vI x1] V2 (fun r V4 => ∃ z4, r = some (vI z4) ∧ ((z4 = 0 ∨ z4 = 1) ∧ Q (some (vI z4)) V4))) ∧ (¬ (z1 ≤ z2) → Q (some (vI 0)) V2))))) : Mf K (d + 1) mX0_crossAt [vR a0, vI x1] V Q := by
  refine Mt.of2 (L := [some (vR a0), some (vI x1)]) pnX0 rfl rfl ?_
  refine wp_aload_n dX0_crossAt_0 rfl rfl ?_
  refine wp_iload_n dX0_crossAt_1 rfl rfl ?_
  refine wp_callV (S := []) (as := [vI x1]) dX0_crossAt_2 lX0_19 (h) (by omega) h0.1 rfl rfl (Nat.le_of_ble_eq_true rfl) ⟨Nat.le_refl _, Nat.le_refl _⟩ ?_
  rintro _ _ V1 ⟨rfl, z1, rfl, q1⟩
  show Wp _ _ _ _ _ 5 _ [vI z1] _ _ _ _ _
  refine wp_aload_n dX0_crossAt_5 rfl rfl ?_
  refine wp_iload_n dX0_crossAt_6 rfl rfl ?_
  refine wp_iconst dX0_crossAt_7 (by decide) ?_
  refine wp_iadd dX0_crossAt_8 ?_
  refine wp_callV (S := [vI z1]) (as := [vI (w32 (x1 + 1))]) dX0_crossAt_9 lX0_19 (q1) (by omega) h0.1 rfl rfl (Nat.le_of_ble_eq_true rfl) ⟨Nat.le_refl _, Nat.le_refl _⟩ ?_
  rintro _ _ V2 ⟨rfl, z2, rfl, q2⟩
  show Wp _ _ _ _ _ 12 _ [vI z2, vI z1] _ _ _ _ _
  refine wp_icmp_le (tgt := 17) dX0_crossAt_12 rfl (fun c3 => ?_) (fun c3 => ?_)
  ·
    refine wp_aload_n dX0_crossAt_17 rfl rfl ?_
    refine wp_iload_n dX0_crossAt_18 rfl rfl ?_
    refine wp_callV (S := []) (as := [vI x1]) dX0_crossAt_19 lX0_23 ((q2.1 c3)) (by omega) h0.1 rfl rfl (Nat.le_of_ble_eq_true rfl) ⟨Nat.le_refl _, Nat.le_refl _⟩ ?_
    rintro _ _ V4 ⟨rfl, z4, rfl, q4⟩
    show Wp _ _ _ _ _ 22 _ [vI z4] _ _ _ _ _
    exact wp_zreturn dX0_crossAt_22 rfl ⟨rfl, rfl⟩ q4.1 ⟨rfl, q4.2⟩
  ·
    refine wp_iconst dX0_crossAt_15 (by decide) ?_
    exact wp_zreturn dX0_crossAt_16 rfl ⟨rfl, rfl⟩ (by decide) ⟨rfl, (q2.2 c3)⟩
set_option maxHeartbeats 4000000 in
set_option maxRecDepth 10000 in
theorem sX0_exchangeAt {K : KK} {d : Nat} {V : Mem} {Q : Option AV → Mem → Prop} (a0 : Nat) (x1 : Int) (h0 : IsBraid a0) (h : Mf K d mX0_strandAt [vR a0, vI x1] V (fun r V1 => ∃ z1, r = some (vI z1) ∧ Mf K d mX0_strandAt [vR a0, vI (w32 (x1 + 1))] V1 (fun r V2 => ∃ z2, r = some (vI z2) ∧ ((z1 = (-1) → Q (some (vI 0)) V2) ∧ (¬ (z1 = (-1)) → ((¬ z2 = (-1) → (((0 : Int) ≤ z1 ∧ z1 < (10 : Nat)) ∧ (((0 : Int) ≤ z2 ∧ z2 < (10 : Nat)) ∧ Q (some (vI 1)) (upm (upm V2 (a0 + 1) (Int.toNat z1) (w32 (x1 + 1))) (a0 + 1) (Int.toNat z2) x1)))) ∧ (z2 = (-1) → Q (some (vI 0)) V2))))))) : Mf K (d + 1) mX0_exchangeAt [vR a0, vI x1] V Q := by
  refine Mt.of2 (L := [some (vR a0), some (vI x1), none, none]) pnX0 rfl rfl ?_
  refine wp_aload_n dX0_exchangeAt_0 rfl rfl ?_
  refine wp_iload_n dX0_exchangeAt_1 rfl rfl ?_
  refine wp_callV (S := []) (as := [vI x1]) dX0_exchangeAt_2 lX0_19 (h) (by omega) h0.1 rfl rfl (Nat.le_of_ble_eq_true rfl) ⟨Nat.le_refl _, Nat.le_refl _⟩ ?_
  rintro _ _ V1 ⟨rfl, z1, rfl, q1⟩
  show Wp _ _ _ _ _ 5 _ [vI z1] _ _ _ _ _
  refine wp_istore_n dX0_exchangeAt_5 rfl (by decide) rfl ?_
  refine wp_aload_n dX0_exchangeAt_6 rfl rfl ?_
  refine wp_iload_n dX0_exchangeAt_7 rfl rfl ?_
  refine wp_iconst dX0_exchangeAt_8 (by decide) ?_
  refine wp_iadd dX0_exchangeAt_9 ?_
  refine wp_callV (S := []) (as := [vI (w32 (x1 + 1))]) dX0_exchangeAt_10 lX0_19 (q1) (by omega) h0.1 rfl rfl (Nat.le_of_ble_eq_true rfl) ⟨Nat.le_refl _, Nat.le_refl _⟩ ?_
  rintro _ _ V2 ⟨rfl, z2, rfl, q2⟩
  show Wp _ _ _ _ _ 13 _ [vI z2] _ _ _ _ _
  refine wp_istore_n dX0_exchangeAt_13 rfl (by decide) rfl ?_
  refine wp_iload_n dX0_exchangeAt_14 rfl rfl ?_
  refine wp_iconst dX0_exchangeAt_15 (by decide) ?_
  refine wp_icmp_eq (tgt := 24) dX0_exchangeAt_16 rfl (fun c3 => ?_) (fun c3 => ?_)
  ·
    refine wp_iconst dX0_exchangeAt_24 (by decide) ?_
    exact wp_zreturn dX0_exchangeAt_25 rfl ⟨rfl, rfl⟩ (by decide) ⟨rfl, (q2.1 c3)⟩
  ·
    refine wp_iload_n dX0_exchangeAt_19 rfl rfl ?_
    refine wp_iconst dX0_exchangeAt_20 (by decide) ?_
    refine wp_icmp_ne (tgt := 26) dX0_exchangeAt_21 rfl (fun c4 => ?_) (fun c4 => ?_)
    ·
      refine wp_aload_n dX0_exchangeAt_26 rfl rfl ?_
      refine wp_getR (b := (a0 + 1)) dX0_exchangeAt_27 fX0_9 rfl h0.1 (by decide) rfl ?_
      refine wp_iload_n dX0_exchangeAt_30 rfl rfl ?_
      refine wp_iload_n dX0_exchangeAt_31 rfl rfl ?_
      refine wp_iconst dX0_exchangeAt_32 (by decide) ?_
      refine wp_iadd dX0_exchangeAt_33 ?_
      refine wp_iast dX0_exchangeAt_34 h0.2 ((q2.2 c3).1 c4).1 ?_
      refine wp_aload_n dX0_exchangeAt_35 rfl rfl ?_
      refine wp_getR (b := (a0 + 1)) dX0_exchangeAt_36 fX0_9 rfl h0.1 (by decide) rfl ?_
      refine wp_iload_n dX0_exchangeAt_39 rfl rfl ?_
      refine wp_iload_n dX0_exchangeAt_40 rfl rfl ?_
      refine wp_iast dX0_exchangeAt_41 h0.2 ((q2.2 c3).1 c4).2.1 ?_
      refine wp_iconst dX0_exchangeAt_42 (by decide) ?_
      exact wp_zreturn dX0_exchangeAt_43 rfl ⟨rfl, rfl⟩ (by decide) ⟨rfl, ((q2.2 c3).1 c4).2.2⟩
    ·
      refine wp_iconst dX0_exchangeAt_24 (by decide) ?_
      exact wp_zreturn dX0_exchangeAt_25 rfl ⟨rfl, rfl⟩ (by decide) ⟨rfl, ((q2.2 c3).2 c4)⟩
set_option maxHeartbeats 4000000 in
set_option maxRecDepth 10000 in
theorem sX0_crossings {K : KK} {d : Nat} {V : Mem} {Q : Option AV → Mem → Prop} (a0 : Nat) (h0 : IsBraid a0) (h : Wf K d mX0_crossings 4 [some (vR a0), some (vI 0), some (vI 1), none] [] V Q) : Mf K d mX0_crossings [vR a0] V Q := by
  refine Mt.of2 (L := [some (vR a0), none, none, none]) pnX0 rfl rfl ?_
  refine wp_iconst dX0_crossings_0 (by decide) ?_
  refine wp_istore_n dX0_crossings_1 rfl (by decide) rfl ?_
  refine wp_iconst dX0_crossings_2 (by decide) ?_
  refine wp_istore_n dX0_crossings_3 rfl (by decide) rfl ?_
  exact h
set_option maxHeartbeats 4000000 in
set_option maxRecDepth 10000 in
theorem sX0_crossings_4 {K : KK} {d : Nat} {V : Mem} {Q : Option AV → Mem → Prop} (a0 : Nat) (x1 : Int) (x2 : Int) (h0 : IsBraid a0) (h : (((V a0 2) ≤ x2 → Q (some (vI x1)) V) ∧ (¬ ((V a0 2) ≤ x2) → Wf K d mX0_crossings 14 [some (vR a0), some (vI x1), some (vI x2), some (vI 0)] [] V Q))) : Wf K d mX0_crossings 4 [some (vR a0), some (vI x1), some (vI x2), none] [] V Q := by
  refine wp_iload_n dX0_crossings_4 rfl rfl ?_
  refine wp_aload_n dX0_crossings_5 rfl rfl ?_
  refine wp_getI dX0_crossings_6 fX0_15 rfl h0.1 (by decide) ?_
  refine wp_icmp_ge (tgt := 49) dX0_crossings_9 rfl (fun c1 => ?_) (fun c1 => ?_)
  ·
    refine wp_iload_n dX0_crossings_49 rfl rfl ?_
    exact wp_ireturn dX0_crossings_50 rfl ⟨rfl, rfl⟩ ⟨rfl, (h.1 c1)⟩
  ·
    refine wp_iconst dX0_crossings_12 (by decide) ?_
    refine wp_istore_n dX0_crossings_13 rfl (by decide) rfl ?_
    exact (h.2 c1)
set_option maxHeartbeats 4000000 in
set_option maxRecDepth 10000 in
theorem sX0_crossings_14 {K : KK} {d : Nat} {V : Mem} {Q : Option AV → Mem → Prop} (a0 : Nat) (x1 : Int) (x2 : Int) (x3 : Int) (h0 : IsBraid a0) (h : ((x2 ≤ x3 → Wf K d mX0_crossings 4 [some (vR a0), some (vI x1), some (vI (w32 (x2 + 1))), none] [] V Q) ∧ (¬ (x2 ≤ x3) → (((0 : Int) ≤ x2 ∧ x2 < (10 : Nat)) ∧ (((0 : Int) ≤ x3 ∧ x3 < (10 : Nat)) ∧ (((V (a0 + 1) (Int.toNat x3)) ≤ (V (a0 + 1) (Int.toNat x2)) → Wf K d mX0_crossings 14 [some (vR a0), some (vI x1), some (vI x2), some (vI (w32 (x3 + 1)))] [] V Q) ∧ (¬ ((V (a0 + 1) (Int.toNat x3)) ≤ (V (a0 + 1) (Int.toNat x2))) → Wf K d mX0_crossings 14 [some (vR a0), some (vI (w32 (x1 + 1))), some (vI x2), some (vI (w32 (x3 + 1)))] [] V Q))))))) : Wf K d mX0_crossings 14 [some (vR a0), some (vI x1), some (vI x2), some (vI x3)] [] V Q := by
  refine wp_iload_n dX0_crossings_14 rfl rfl ?_
  refine wp_iload_n dX0_crossings_15 rfl rfl ?_
  refine wp_icmp_ge (tgt := 43) dX0_crossings_16 rfl (fun c1 => ?_) (fun c1 => ?_)
  ·
    refine wp_iinc dX0_crossings_43 rfl rfl ?_
    refine wp_goto (tgt := 4) dX0_crossings_46 rfl ?_
    exact wp_loc (L2 := [some (vR a0), some (vI x1), some (vI (w32 (x2 + 1))), none]) ⟨rfl, ⟨rfl, ⟨rfl, trivial⟩⟩⟩ (h.1 c1)
  ·
    refine wp_aload_n dX0_crossings_19 rfl rfl ?_
    refine wp_getR (b := (a0 + 1)) dX0_crossings_20 fX0_9 rfl h0.1 (by decide) rfl ?_
    refine wp_iload_n dX0_crossings_23 rfl rfl ?_
    refine wp_iald dX0_crossings_24 h0.2 (h.2 c1).1 ?_
    refine wp_aload_n dX0_crossings_25 rfl rfl ?_
    refine wp_getR (b := (a0 + 1)) dX0_crossings_26 fX0_9 rfl h0.1 (by decide) rfl ?_
    refine wp_iload_n dX0_crossings_29 rfl rfl ?_
    refine wp_iald dX0_crossings_30 h0.2 (h.2 c1).2.1 ?_
    refine wp_icmp_ge (tgt := 37) dX0_crossings_31 rfl (fun c2 => ?_) (fun c2 => ?_)
    ·
      refine wp_iinc dX0_crossings_37 rfl rfl ?_
      refine wp_goto (tgt := 14) dX0_crossings_40 rfl ?_
      exact ((h.2 c1).2.2.1 c2)
    ·
      refine wp_iinc dX0_crossings_34 rfl rfl ?_
      refine wp_iinc dX0_crossings_37 rfl rfl ?_
      refine wp_goto (tgt := 14) dX0_crossings_40 rfl ?_
      exact ((h.2 c1).2.2.2 c2)
set_option maxHeartbeats 4000000 in
set_option maxRecDepth 10000 in
theorem sX0_countOf {K : KK} {d : Nat} {V : Mem} {Q : Option AV → Mem → Prop} (a0 : Nat) (x1 : Int) (x2 : Int) (h0 : IsBraid a0) (h : Wf K (d + 1) mX0_countOf 9 [some (vR a0), none, some (vI x2), some (vI 0), some (vI (max x1 0))] [] V Q) : Mf K (d + 1) mX0_countOf [vR a0, vI x1, vI x2] V Q := by
  refine Mt.of2 (L := [some (vR a0), some (vI x1), some (vI x2), none, none]) pnX0 rfl rfl ?_
  refine wp_iconst dX0_countOf_0 (by decide) ?_
  refine wp_istore_n dX0_countOf_1 rfl (by decide) rfl ?_
  refine wp_iload_n dX0_countOf_2 rfl rfl ?_
  refine wp_iconst dX0_countOf_3 (by decide) ?_
  refine wp_mmax dX0_countOf_4 lX0_27 (by omega) (Nat.le_of_ble_eq_true rfl) ⟨Nat.le_refl _, Nat.le_refl _⟩ ?_
  refine wp_istore dX0_countOf_7 (by decide) rfl ?_
  exact wp_loc (L2 := [some (vR a0), none, some (vI x2), some (vI 0), some (vI (max x1 0))]) ⟨rfl, ⟨rfl, ⟨rfl, ⟨rfl, trivial⟩⟩⟩⟩ h
set_option maxHeartbeats 4000000 in
set_option maxRecDepth 10000 in
theorem sX0_countOf_9 {K : KK} {d : Nat} {V : Mem} {Q : Option AV → Mem → Prop} (a0 : Nat) (x2 : Int) (x3 : Int) (x4 : Int) (h0 : IsBraid a0) (h : (((V a0 2) ≤ x4 → Q (some (vI x3)) V) ∧ (¬ ((V a0 2) ≤ x4) → (((0 : Int) ≤ x4 ∧ x4 < (10 : Nat)) ∧ ((x2 ≤ (V (a0 + 1) (Int.toNat x4)) → Wf K (d + 1) mX0_countOf 9 [some (vR a0), none, some (vI x2), some (vI x3), some (vI (w32 (x4 + 1)))] [] V Q) ∧ (¬ (x2 ≤ (V (a0 + 1) (Int.toNat x4))) → Wf K (d + 1) mX0_countOf 9 [some (vR a0), none, some (vI x2), some (vI (w32 (x3 + 1))), some (vI (w32 (x4 + 1)))] [] V Q)))))) : Wf K (d + 1) mX0_countOf 9 [some (vR a0), none, some (vI x2), some (vI x3), some (vI x4)] [] V Q := by
  refine wp_iload dX0_countOf_9 rfl ?_
  refine wp_aload_n dX0_countOf_11 rfl rfl ?_
  refine wp_getI dX0_countOf_12 fX0_15 rfl h0.1 (by decide) ?_
  refine wp_icmp_ge (tgt := 38) dX0_countOf_15 rfl (fun c1 => ?_) (fun c1 => ?_)
  ·
    refine wp_iload_n dX0_countOf_38 rfl rfl ?_
    exact wp_ireturn dX0_countOf_39 rfl ⟨rfl, rfl⟩ ⟨rfl, (h.1 c1)⟩
  ·
    refine wp_aload_n dX0_countOf_18 rfl rfl ?_
    refine wp_getR (b := (a0 + 1)) dX0_countOf_19 fX0_9 rfl h0.1 (by decide) rfl ?_
    refine wp_iload dX0_countOf_22 rfl ?_
    refine wp_iald dX0_countOf_24 h0.2 (h.2 c1).1 ?_
    refine wp_iload_n dX0_countOf_25 rfl rfl ?_
    refine wp_icmp_ge (tgt := 32) dX0_countOf_26 rfl (fun c2 => ?_) (fun c2 => ?_)
    ·
      refine wp_iinc dX0_countOf_32 rfl rfl ?_
      refine wp_goto (tgt := 9) dX0_countOf_35 rfl ?_
      exact ((h.2 c1).2.1 c2)
    ·
      refine wp_iinc dX0_countOf_29 rfl rfl ?_
      refine wp_iinc dX0_countOf_32 rfl rfl ?_
      refine wp_goto (tgt := 9) dX0_countOf_35 rfl ?_
      exact ((h.2 c1).2.2 c2)
set_option maxHeartbeats 4000000 in
set_option maxRecDepth 10000 in
theorem sX0_isSame {K : KK} {d : Nat} {V : Mem} {Q : Option AV → Mem → Prop} (a0 : Nat) (a1 : Nat) (h0 : IsBraid a0) (h1 : IsBraid a1) (h : Wf K d mX0_isSame 2 [some (vR a0), some (vR a1), some (vI 0)] [] V Q) : Mf K d mX0_isSame [vR a0, vR a1] V Q := by
  refine Mt.of2 (L := [some (vR a0), some (vR a1), none]) pnX0 rfl rfl ?_
  refine wp_iconst dX0_isSame_0 (by decide) ?_
  refine wp_istore_n dX0_isSame_1 rfl (by decide) rfl ?_
  exact h
set_option maxHeartbeats 4000000 in
set_option maxRecDepth 10000 in
theorem sX0_isSame_2 {K : KK} {d : Nat} {V : Mem} {Q : Option AV → Mem → Prop} (a0 : Nat) (a1 : Nat) (x2 : Int) (h0 : IsBraid a0) (h1 : IsBraid a1) (h : (((V a0 2) ≤ x2 → ((¬ (V a0 2) = (V a1 2) → Q (some (vI 0)) V) ∧ ((V a0 2) = (V a1 2) → Q (some (vI 1)) V))) ∧ (¬ ((V a0 2) ≤ x2) → (((0 : Int) ≤ x2 ∧ x2 < (10 : Nat)) ∧ (((0 : Int) ≤ x2 ∧ x2 < (10 : Nat)) ∧ (((V (a0 + 1) (Int.toNat x2)) = (V (a1 + 1) (Int.toNat x2)) → Wf K d mX0_isSame 2 [some (vR a0), some (vR a1), some (vI (w32 (x2 + 1)))] [] V Q) ∧ (¬ ((V (a0 + 1) (Int.toNat x2)) = (V (a1 + 1) (Int.toNat x2))) → Q (some (vI 0)) V))))))) : Wf K d mX0_isSame 2 [some (vR a0), some (vR a1), some (vI x2)] [] V Q := by
  refine wp_iload_n dX0_isSame_2 rfl rfl ?_
  refine wp_aload_n dX0_isSame_3 rfl rfl ?_
  refine wp_getI dX0_isSame_4 fX0_15 rfl h0.1 (by decide) ?_
  refine wp_icmp_ge (tgt := 33) dX0_isSame_7 rfl (fun c1 => ?_) (fun c1 => ?_)
  ·
    refine wp_aload_n dX0_isSame_33 rfl rfl ?_
    refine wp_getI dX0_isSame_34 fX0_15 rfl h0.1 (by decide) ?_
    refine wp_aload_n dX0_isSame_37 rfl rfl ?_
    refine wp_getI dX0_isSame_38 fX0_15 rfl h1.1 (by decide) ?_
    refine wp_icmp_ne (tgt := 48) dX0_isSame_41 rfl (fun c2 => ?_) (fun c2 => ?_)
    ·
      refine wp_iconst dX0_isSame_48 (by decide) ?_
      exact wp_zreturn dX0_isSame_49 rfl ⟨rfl, rfl⟩ (by decide) ⟨rfl, ((h.1 c1).1 c2)⟩
    ·
      refine wp_iconst dX0_isSame_44 (by decide) ?_
      refine wp_goto (tgt := 49) dX0_isSame_45 rfl ?_
      exact wp_zreturn dX0_isSame_49 rfl ⟨rfl, rfl⟩ (by decide) ⟨rfl, ((h.1 c1).2 c2)⟩
  ·
    refine wp_aload_n dX0_isSame_10 rfl rfl ?_
    refine wp_getR (b := (a0 + 1)) dX0_isSame_11 fX0_9 rfl h0.1 (by decide) rfl ?_
    refine wp_iload_n dX0_isSame_14 rfl rfl ?_
    refine wp_iald dX0_isSame_15 h0.2 (h.2 c1).1 ?_
    refine wp_aload_n dX0_isSame_16 rfl rfl ?_
    refine wp_getR (b := (a1 + 1)) dX0_isSame_17 fX0_9 rfl h1.1 (by decide) rfl ?_
    refine wp_iload_n dX0_isSame_20 rfl rfl ?_
    refine wp_iald dX0_isSame_21 h1.2 (h.2 c1).2.1 ?_
    refine wp_icmp_eq (tgt := 27) dX0_isSame_22 rfl (fun c3 => ?_) (fun c3 => ?_)
    ·
      refine wp_iinc dX0_isSame_27 rfl rfl ?_
      refine wp_goto (tgt := 2) dX0_isSame_30 rfl ?_
      exact ((h.2 c1).2.2.1 c3)
    ·
      refine wp_iconst dX0_isSame_25 (by decide) ?_
      exact wp_zreturn dX0_isSame_26 rfl ⟨rfl, rfl⟩ (by decide) ⟨rfl, ((h.2 c1).2.2.2 c3)⟩
set_option maxHeartbeats 4000000 in
set_option maxRecDepth 10000 in
theorem sX0_copyFrom {K : KK} {d : Nat} {V : Mem} {Q : Option AV → Mem → Prop} (a0 : Nat) (a1 : Nat) (h0 : IsBraid a0) (h1 : IsBraid a1) (hE : kE K = false) (h : Q none (upm (upm (upm (cpm V (a1 + 1) (Int.toNat 0) (a0 + 1) (Int.toNat 0) (Int.toNat 10)) a0 1 ((cpm V (a1 + 1) (Int.toNat 0) (a0 + 1) (Int.toNat 0) (Int.toNat 10)) a1 1)) a0 2 ((upm (cpm V (a1 + 1) (Int.toNat 0) (a0 + 1) (Int.toNat 0) (Int.toNat 10)) a0 1 ((cpm V (a1 + 1) (Int.toNat 0) (a0 + 1) (Int.toNat 0) (Int.toNat 10)) a1 1)) a1 2)) a0 3 ((upm (upm (cpm V (a1 + 1) (Int.toNat 0) (a0 + 1) (Int.toNat 0) (Int.toNat 10)) a0 1 ((cpm V (a1 + 1) (Int.toNat 0) (a0 + 1) (Int.toNat 0) (Int.toNat 10)) a1 1)) a0 2 ((upm (cpm V (a1 + 1) (Int.toNat 0) (a0 + 1) (Int.toNat 0) (Int.toNat 10)) a0 1 ((cpm V (a1 + 1) (Int.toNat 0) (a0 + 1) (Int.toNat 0) (Int.toNat 10)) a1 1)) a1 2)) a1 3))) : Mf K (d + 1) mX0_copyFrom [vR a0, vR a1] V Q := by
  refine Mt.of2 (L := [some (vR a0), some (vR a1)]) pnX0 rfl rfl ?_
  refine wp_aload_n dX0_copyFrom_0 rfl rfl ?_
  refine wp_getR (b := (a1 + 1)) dX0_copyFrom_1 fX0_9 rfl h1.1 (by decide) rfl ?_
  refine wp_iconst dX0_copyFrom_4 (by decide) ?_
  refine wp_aload_n dX0_copyFrom_5 rfl rfl ?_
  refine wp_getR (b := (a0 + 1)) dX0_copyFrom_6 fX0_9 rfl h0.1 (by decide) rfl ?_
  refine wp_iconst dX0_copyFrom_9 (by decide) ?_
  refine wp_aload_n dX0_copyFrom_10 rfl rfl ?_
  refine wp_getR (b := (a0 + 1)) dX0_copyFrom_11 fX0_9 rfl h0.1 (by decide) rfl ?_
  refine wp_alen dX0_copyFrom_14 h0.2 (by decide) (by decide) ?_
  refine wp_copy dX0_copyFrom_15 lX0_33 hE (by omega) (Nat.le_of_ble_eq_true rfl) h1.2 h0.2 (by decide) ?_
  refine wp_aload_n dX0_copyFrom_18 rfl rfl ?_
  refine wp_aload_n dX0_copyFrom_19 rfl rfl ?_
  refine wp_getJ dX0_copyFrom_20 fX0_39 rfl h1.1 (by decide) ?_
  refine wp_putJ dX0_copyFrom_23 fwX0_39 rfl h0.1 (by decide) ?_
  refine wp_aload_n dX0_copyFrom_26 rfl rfl ?_
  refine wp_aload_n dX0_copyFrom_27 rfl rfl ?_
  refine wp_getI dX0_copyFrom_28 fX0_15 rfl h1.1 (by decide) ?_
  refine wp_putI dX0_copyFrom_31 fwX0_15 rfl h0.1 (by decide) ?_
  refine wp_aload_n dX0_copyFrom_34 rfl rfl ?_
  refine wp_aload_n dX0_copyFrom_35 rfl rfl ?_
  refine wp_getI dX0_copyFrom_36 fX0_43 rfl h1.1 (by decide) ?_
  refine wp_putI dX0_copyFrom_39 fwX0_43 rfl h0.1 (by decide) ?_
  exact wp_return dX0_copyFrom_42 rfl ⟨rfl, rfl⟩ ⟨rfl, h⟩
set_option maxHeartbeats 4000000 in
set_option maxRecDepth 10000 in
theorem sX6_hasPlace {K : KK} {d : Nat} {V : Mem} {Q : Option AV → Mem → Prop} (a0 : Nat) (x1 : Int) (h0 : IsRow a0) (h : ((x1 < 0 → Q (some (vI 0)) V) ∧ (¬ (x1 < 0) → (((V a0 3) ≤ x1 → Q (some (vI 0)) V) ∧ (¬ ((V a0 3) ≤ x1) → ((20 ≤ x1 → Q (some (vI 0)) V) ∧ (¬ (20 ≤ x1) → Q (some (vI 1)) V))))))) : Mf K d mX6_hasPlace [vR a0, vI x1] V Q := by
  refine Mt.of2 (L := [some (vR a0), some (vI x1)]) pnX6 rfl rfl ?_
  refine wp_iload_n dX6_hasPlace_0 rfl rfl ?_
  refine wp_if_lt (tgt := 25) dX6_hasPlace_1 rfl (fun c1 => ?_) (fun c1 => ?_)
  ·
    refine wp_iconst dX6_hasPlace_25 (by decide) ?_
    exact wp_zreturn dX6_hasPlace_26 rfl ⟨rfl, rfl⟩ (by decide) ⟨rfl, (h.1 c1)⟩
  ·
    refine wp_iload_n dX6_hasPlace_4 rfl rfl ?_
    refine wp_aload_n dX6_hasPlace_5 rfl rfl ?_
    refine wp_getI dX6_hasPlace_6 fX6_15 rfl h0.1 (by decide) ?_
    refine wp_icmp_ge (tgt := 25) dX6_hasPlace_9 rfl (fun c2 => ?_) (fun c2 => ?_)
    ·
      refine wp_iconst dX6_hasPlace_25 (by decide) ?_
      exact wp_zreturn dX6_hasPlace_26 rfl ⟨rfl, rfl⟩ (by decide) ⟨rfl, ((h.2 c1).1 c2)⟩
    ·
      refine wp_iload_n dX6_hasPlace_12 rfl rfl ?_
      refine wp_aload_n dX6_hasPlace_13 rfl rfl ?_
      refine wp_getR (b := (a0 + 1)) dX6_hasPlace_14 fX6_9 rfl h0.1 (by decide) rfl ?_
      refine wp_alen dX6_hasPlace_17 h0.2 (by decide) (by decide) ?_
      refine wp_icmp_ge (tgt := 25) dX6_hasPlace_18 rfl (fun c3 => ?_) (fun c3 => ?_)
      ·
        refine wp_iconst dX6_hasPlace_25 (by decide) ?_
        exact wp_zreturn dX6_hasPlace_26 rfl ⟨rfl, rfl⟩ (by decide) ⟨rfl, (((h.2 c1).2 c2).1 c3)⟩
      ·
        refine wp_iconst dX6_hasPlace_21 (by decide) ?_
        refine wp_goto (tgt := 26) dX6_hasPlace_22 rfl ?_
        exact wp_zreturn dX6_hasPlace_26 rfl ⟨rfl, rfl⟩ (by decide) ⟨rfl, (((h.2 c1).2 c2).2 c3)⟩
set_option maxHeartbeats 4000000 in
set_option maxRecDepth 10000 in
theorem sX6_add {K : KK} {d : Nat} {V : Mem} {Q : Option AV → Mem → Prop} (a0 : Nat) (x1 : Int) (h0 : IsRow a0) (h : (((V a0 3) < 0 → Q (some (vI 0)) V) ∧ (¬ ((V a0 3) < 0) → (((V a0 3) < 20 → (((0 : Int) ≤ (V a0 3) ∧ (V a0 3) < (20 : Nat)) ∧ Q (some (vI 1)) (upm (upm V (a0 + 1) (Int.toNat (V a0 3)) x1) a0 3 (w32 (((upm V (a0 + 1) (Int.toNat (V a0 3)) x1) a0 3) + 1))))) ∧ (¬ ((V a0 3) < 20) → Q (some (vI 0)) V))))) : Mf K d mX6_add [vR a0, vI x1] V Q := by
  refine Mt.of2 (L := [some (vR a0), some (vI x1)]) pnX6 rfl rfl ?_
  refine wp_aload_n dX6_add_0 rfl rfl ?_
  refine wp_getI dX6_add_1 fX6_15 rfl h0.1 (by decide) ?_
  refine wp_if_lt (tgt := 19) dX6_add_4 rfl (fun c1 => ?_) (fun c1 => ?_)
  ·
    refine wp_iconst dX6_add_19 (by decide) ?_
    exact wp_zreturn dX6_add_20 rfl ⟨rfl, rfl⟩ (by decide) ⟨rfl, (h.1 c1)⟩
  ·
    refine wp_aload_n dX6_add_7 rfl rfl ?_
    refine wp_getI dX6_add_8 fX6_15 rfl h0.1 (by decide) ?_
    refine wp_aload_n dX6_add_11 rfl rfl ?_
    refine wp_getR (b := (a0 + 1)) dX6_add_12 fX6_9 rfl h0.1 (by decide) rfl ?_
    refine wp_alen dX6_add_15 h0.2 (by decide) (by decide) ?_
    refine wp_icmp_lt (tgt := 21) dX6_add_16 rfl (fun c2 => ?_) (fun c2 => ?_)
    ·
      refine wp_aload_n dX6_add_21 rfl rfl ?_
      refine wp_getR (b := (a0 + 1)) dX6_add_22 fX6_9 rfl h0.1 (by decide) rfl ?_
      refine wp_aload_n dX6_add_25 rfl rfl ?_
      refine wp_getI dX6_add_26 fX6_15 rfl h0.1 (by decide) ?_
      refine wp_iload_n dX6_add_29 rfl rfl ?_
      refine wp_iast dX6_add_30 h0.2 ((h.2 c1).1 c2).1 ?_
      refine wp_aload_n dX6_add_31 rfl rfl ?_
      refine wp_dup dX6_add_32 rfl ?_
      refine wp_getI dX6_add_33 fX6_15 rfl h0.1 (by decide) ?_
      refine wp_iconst dX6_add_36 (by decide) ?_
      refine wp_iadd dX6_add_37 ?_
      refine wp_putI dX6_add_38 fwX6_15 rfl h0.1 (by decide) ?_
      refine wp_iconst dX6_add_41 (by decide) ?_
      exact wp_zreturn dX6_add_42 rfl ⟨rfl, rfl⟩ (by decide) ⟨rfl, ((h.2 c1).1 c2).2⟩
    ·
      refine wp_iconst dX6_add_19 (by decide) ?_
      exact wp_zreturn dX6_add_20 rfl ⟨rfl, rfl⟩ (by decide) ⟨rfl, ((h.2 c1).2 c2)⟩
set_option maxHeartbeats 4000000 in
set_option maxRecDepth 10000 in
theorem sX6_flip {K : KK} {d : Nat} {V : Mem} {Q : Option AV → Mem → Prop} (a0 : Nat) (h0 : IsRow a0) (h : Wf K d mX6_flip 2 [some (vR a0), some (vI 0), none] [] V Q) : Mf K d mX6_flip [vR a0] V Q := by
  refine Mt.of2 (L := [some (vR a0), none, none]) pnX6 rfl rfl ?_
  refine wp_iconst dX6_flip_0 (by decide) ?_
  refine wp_istore_n dX6_flip_1 rfl (by decide) rfl ?_
  exact h
set_option maxHeartbeats 4000000 in
set_option maxRecDepth 10000 in
theorem sX6_flip_2 {K : KK} {d : Nat} {V : Mem} {Q : Option AV → Mem → Prop} (a0 : Nat) (x1 : Int) (h0 : IsRow a0) (h : (((w32 (Int.tdiv (V a0 3) 2)) ≤ x1 → Q none V) ∧ (¬ ((w32 (Int.tdiv (V a0 3) 2)) ≤ x1) → (((0 : Int) ≤ x1 ∧ x1 < (20 : Nat)) ∧ (((0 : Int) ≤ (w32 ((w32 ((V a0 3) - 1)) - x1)) ∧ (w32 ((w32 ((V a0 3) - 1)) - x1)) < (20 : Nat)) ∧ (((0 : Int) ≤ x1 ∧ x1 < (20 : Nat)) ∧ (((0 : Int) ≤ (w32 ((w32 (((upm V (a0 + 1) (Int.toNat x1) (V (a0 + 1) (Int.toNat (w32 ((w32 ((V a0 3) - 1)) - x1))))) a0 3) - 1)) - x1)) ∧ (w32 ((w32 (((upm V (a0 + 1) (Int.toNat x1) (V (a0 + 1) (Int.toNat (w32 ((w32 ((V a0 3) - 1)) - x1))))) a0 3) - 1)) - x1)) < (20 : Nat)) ∧ Wf K d mX6_flip 2 [some (vR a0), some (vI (w32 (x1 + 1))), none] [] (upm (upm V (a0 + 1) (Int.toNat x1) (V (a0 + 1) (Int.toNat (w32 ((w32 ((V a0 3) - 1)) - x1))))) (a0 + 1) (Int.toNat (w32 ((w32 (((upm V (a0 + 1) (Int.toNat x1) (V (a0 + 1) (Int.toNat (w32 ((w32 ((V a0 3) - 1)) - x1))))) a0 3) - 1)) - x1))) (V (a0 + 1) (Int.toNat x1))) Q))))))) : Wf K d mX6_flip 2 [some (vR a0), some (vI x1), none] [] V Q := by
  refine wp_iload_n dX6_flip_2 rfl rfl ?_
  refine wp_aload_n dX6_flip_3 rfl rfl ?_
  refine wp_getI dX6_flip_4 fX6_15 rfl h0.1 (by decide) ?_
  refine wp_iconst dX6_flip_7 (by decide) ?_
  refine wp_idiv dX6_flip_8 (by decide) ?_
  refine wp_icmp_ge (tgt := 58) dX6_flip_9 rfl (fun c1 => ?_) (fun c1 => ?_)
  ·
    exact wp_return dX6_flip_58 rfl ⟨rfl, rfl⟩ ⟨rfl, (h.1 c1)⟩
  ·
    refine wp_aload_n dX6_flip_12 rfl rfl ?_
    refine wp_getR (b := (a0 + 1)) dX6_flip_13 fX6_9 rfl h0.1 (by decide) rfl ?_
    refine wp_iload_n dX6_flip_16 rfl rfl ?_
    refine wp_iald dX6_flip_17 h0.2 (h.2 c1).1 ?_
    refine wp_istore_n dX6_flip_18 rfl (by decide) rfl ?_
    refine wp_aload_n dX6_flip_19 rfl rfl ?_
    refine wp_getR (b := (a0 + 1)) dX6_flip_20 fX6_9 rfl h0.1 (by decide) rfl ?_
    refine wp_iload_n dX6_flip_23 rfl rfl ?_
    refine wp_aload_n dX6_flip_24 rfl rfl ?_
    refine wp_getR (b := (a0 + 1)) dX6_flip_25 fX6_9 rfl h0.1 (by decide) rfl ?_
    refine wp_aload_n dX6_flip_28 rfl rfl ?_
    refine wp_getI dX6_flip_29 fX6_15 rfl h0.1 (by decide) ?_
    refine wp_iconst dX6_flip_32 (by decide) ?_
    refine wp_isub dX6_flip_33 ?_
    refine wp_iload_n dX6_flip_34 rfl rfl ?_
    refine wp_isub dX6_flip_35 ?_
    refine wp_iald dX6_flip_36 h0.2 (h.2 c1).2.1 ?_
    refine wp_iast dX6_flip_37 h0.2 (h.2 c1).2.2.1 ?_
    refine wp_aload_n dX6_flip_38 rfl rfl ?_
    refine wp_getR (b := (a0 + 1)) dX6_flip_39 fX6_9 rfl h0.1 (by decide) rfl ?_
    refine wp_aload_n dX6_flip_42 rfl rfl ?_
    refine wp_getI dX6_flip_43 fX6_15 rfl h0.1 (by decide) ?_
    refine wp_iconst dX6_flip_46 (by decide) ?_
    refine wp_isub dX6_flip_47 ?_
    refine wp_iload_n dX6_flip_48 rfl rfl ?_
    refine wp_isub dX6_flip_49 ?_
    refine wp_iload_n dX6_flip_50 rfl rfl ?_
    refine wp_iast dX6_flip_51 h0.2 (h.2 c1).2.2.2.1 ?_
    refine wp_iinc dX6_flip_52 rfl rfl ?_
    refine wp_goto (tgt := 2) dX6_flip_55 rfl ?_
    exact wp_loc (L2 := [some (vR a0), some (vI (w32 (x1 + 1))), none]) ⟨rfl, ⟨rfl, trivial⟩⟩ (h.2 c1).2.2.2.2
set_option maxHeartbeats 4000000 in
set_option maxRecDepth 10000 in
theorem sX6_copyFrom {K : KK} {d : Nat} {V : Mem} {Q : Option AV → Mem → Prop} (a0 : Nat) (a1 : Nat) (h0 : IsRow a0) (h1 : IsRow a1) (hE : kE K = false) (h : Q none (upm (upm (upm (cpm V (a1 + 1) (Int.toNat 0) (a0 + 1) (Int.toNat 0) (Int.toNat 20)) a0 1 ((cpm V (a1 + 1) (Int.toNat 0) (a0 + 1) (Int.toNat 0) (Int.toNat 20)) a1 1)) a0 2 ((upm (cpm V (a1 + 1) (Int.toNat 0) (a0 + 1) (Int.toNat 0) (Int.toNat 20)) a0 1 ((cpm V (a1 + 1) (Int.toNat 0) (a0 + 1) (Int.toNat 0) (Int.toNat 20)) a1 1)) a1 2)) a0 3 ((upm (upm (cpm V (a1 + 1) (Int.toNat 0) (a0 + 1) (Int.toNat 0) (Int.toNat 20)) a0 1 ((cpm V (a1 + 1) (Int.toNat 0) (a0 + 1) (Int.toNat 0) (Int.toNat 20)) a1 1)) a0 2 ((upm (cpm V (a1 + 1) (Int.toNat 0) (a0 + 1) (Int.toNat 0) (Int.toNat 20)) a0 1 ((cpm V (a1 + 1) (Int.toNat 0) (a0 + 1) (Int.toNat 0) (Int.toNat 20)) a1 1)) a1 2)) a1 3))) : Mf K (d + 1) mX6_copyFrom [vR a0, vR a1] V Q := by
  refine Mt.of2 (L := [some (vR a0), some (vR a1)]) pnX6 rfl rfl ?_
  refine wp_aload_n dX6_copyFrom_0 rfl rfl ?_
  refine wp_getR (b := (a1 + 1)) dX6_copyFrom_1 fX6_9 rfl h1.1 (by decide) rfl ?_
  refine wp_iconst dX6_copyFrom_4 (by decide) ?_
  refine wp_aload_n dX6_copyFrom_5 rfl rfl ?_
  refine wp_getR (b := (a0 + 1)) dX6_copyFrom_6 fX6_9 rfl h0.1 (by decide) rfl ?_
  refine wp_iconst dX6_copyFrom_9 (by decide) ?_
  refine wp_aload_n dX6_copyFrom_10 rfl rfl ?_
  refine wp_getR (b := (a0 + 1)) dX6_copyFrom_11 fX6_9 rfl h0.1 (by decide) rfl ?_
  refine wp_alen dX6_copyFrom_14 h0.2 (by decide) (by decide) ?_
  refine wp_copy dX6_copyFrom_15 lX6_19 hE (by omega) (Nat.le_of_ble_eq_true rfl) h1.2 h0.2 (by decide) ?_
  refine wp_aload_n dX6_copyFrom_18 rfl rfl ?_
  refine wp_aload_n dX6_copyFrom_19 rfl rfl ?_
  refine wp_getJ dX6_copyFrom_20 fX6_25 rfl h1.1 (by decide) ?_
  refine wp_putJ dX6_copyFrom_23 fwX6_25 rfl h0.1 (by decide) ?_
  refine wp_aload_n dX6_copyFrom_26 rfl rfl ?_
  refine wp_aload_n dX6_copyFrom_27 rfl rfl ?_
  refine wp_getI dX6_copyFrom_28 fX6_29 rfl h1.1 (by decide) ?_
  refine wp_putI dX6_copyFrom_31 fwX6_29 rfl h0.1 (by decide) ?_
  refine wp_aload_n dX6_copyFrom_34 rfl rfl ?_
  refine wp_aload_n dX6_copyFrom_35 rfl rfl ?_
  refine wp_getI dX6_copyFrom_36 fX6_15 rfl h1.1 (by decide) ?_
  refine wp_putI dX6_copyFrom_39 fwX6_15 rfl h0.1 (by decide) ?_
  exact wp_return dX6_copyFrom_42 rfl ⟨rfl, rfl⟩ ⟨rfl, h⟩
set_option maxHeartbeats 4000000 in
set_option maxRecDepth 10000 in
theorem sX3_has {K : KK} {d : Nat} {V : Mem} {Q : Option AV → Mem → Prop} (a0 : Nat) (n0 : Nat) (x1 : Int) (h0 : IsDeeds n0 a0) (h : ((x1 < 0 → Q (some (vI 0)) V) ∧ (¬ (x1 < 0) → (((V a0 3) ≤ x1 → Q (some (vI 0)) V) ∧ (¬ ((V a0 3) ≤ x1) → (((n0 : Nat) ≤ x1 → Q (some (vI 0)) V) ∧ (¬ ((n0 : Nat) ≤ x1) → Q (some (vI 1)) V))))))) : Mf K d mX3_has [vR a0, vI x1] V Q := by
  refine Mt.of2 (L := [some (vR a0), some (vI x1)]) pnX3 rfl rfl ?_
  refine wp_iload_n dX3_has_0 rfl rfl ?_
  refine wp_if_lt (tgt := 25) dX3_has_1 rfl (fun c1 => ?_) (fun c1 => ?_)
  ·
    refine wp_iconst dX3_has_25 (by decide) ?_
    exact wp_zreturn dX3_has_26 rfl ⟨rfl, rfl⟩ (by decide) ⟨rfl, (h.1 c1)⟩
  ·
    refine wp_iload_n dX3_has_4 rfl rfl ?_
    refine wp_aload_n dX3_has_5 rfl rfl ?_
    refine wp_getI dX3_has_6 fX3_27 rfl h0.1 (by decide) ?_
    refine wp_icmp_ge (tgt := 25) dX3_has_9 rfl (fun c2 => ?_) (fun c2 => ?_)
    ·
      refine wp_iconst dX3_has_25 (by decide) ?_
      exact wp_zreturn dX3_has_26 rfl ⟨rfl, rfl⟩ (by decide) ⟨rfl, ((h.2 c1).1 c2)⟩
    ·
      refine wp_iload_n dX3_has_12 rfl rfl ?_
      refine wp_aload_n dX3_has_13 rfl rfl ?_
      refine wp_getR (b := (a0 + 1)) dX3_has_14 fX3_15 rfl h0.1 (by decide) rfl ?_
      refine wp_alen dX3_has_17 h0.2.1 (by decide) h0.2.2.2.2 ?_
      refine wp_icmp_ge (tgt := 25) dX3_has_18 rfl (fun c3 => ?_) (fun c3 => ?_)
      ·
        refine wp_iconst dX3_has_25 (by decide) ?_
        exact wp_zreturn dX3_has_26 rfl ⟨rfl, rfl⟩ (by decide) ⟨rfl, (((h.2 c1).2 c2).1 c3)⟩
      ·
        refine wp_iconst dX3_has_21 (by decide) ?_
        refine wp_goto (tgt := 26) dX3_has_22 rfl ?_
        exact wp_zreturn dX3_has_26 rfl ⟨rfl, rfl⟩ (by decide) ⟨rfl, (((h.2 c1).2 c2).2 c3)⟩
set_option maxHeartbeats 4000000 in
set_option maxRecDepth 10000 in
theorem sX3_verbOf {K : KK} {d : Nat} {V : Mem} {Q : Option AV → Mem → Prop} (a0 : Nat) (n0 : Nat) (x1 : Int) (h0 : IsDeeds n0 a0) (h : Mf K d mX3_has [vR a0, vI x1] V (fun r V1 => ∃ z1, r = some (vI z1) ∧ ((z1 = 0 → Q (some (vI 0)) V1) ∧ (¬ (z1 = 0) → (((0 : Int) ≤ x1 ∧ x1 < (n0 : Nat)) ∧ Q (some (vI (V1 (a0 + 1) (Int.toNat x1)))) V1))))) : Mf K (d + 1) mX3_verbOf [vR a0, vI x1] V Q := by
  refine Mt.of2 (L := [some (vR a0), some (vI x1)]) pnX3 rfl rfl ?_
  refine wp_aload_n dX3_verbOf_0 rfl rfl ?_
  refine wp_iload_n dX3_verbOf_1 rfl rfl ?_
  refine wp_callV (S := []) (as := [vI x1]) dX3_verbOf_2 lX3_31 (h) (by omega) h0.1 rfl rfl (Nat.le_of_ble_eq_true rfl) ⟨Nat.le_refl _, Nat.le_refl _⟩ ?_
  rintro _ _ V1 ⟨rfl, z1, rfl, q1⟩
  show Wp _ _ _ _ _ 5 _ [vI z1] _ _ _ _ _
  refine wp_if_eq (tgt := 17) dX3_verbOf_5 rfl (fun c2 => ?_) (fun c2 => ?_)
  ·
    refine wp_iconst dX3_verbOf_17 (by decide) ?_
    exact wp_ireturn dX3_verbOf_18 rfl ⟨rfl, rfl⟩ ⟨rfl, (q1.1 c2)⟩
  ·
    refine wp_aload_n dX3_verbOf_8 rfl rfl ?_
    refine wp_getR (b := (a0 + 1)) dX3_verbOf_9 fX3_15 rfl h0.1 (by decide) rfl ?_
    refine wp_iload_n dX3_verbOf_12 rfl rfl ?_
    refine wp_iald dX3_verbOf_13 h0.2.1 (q1.2 c2).1 ?_
    refine wp_goto (tgt := 18) dX3_verbOf_14 rfl ?_
    exact wp_ireturn dX3_verbOf_18 rfl ⟨rfl, rfl⟩ ⟨rfl, (q1.2 c2).2⟩
set_option maxHeartbeats 4000000 in
set_option maxRecDepth 10000 in
theorem sX3_whichOf {K : KK} {d : Nat} {V : Mem} {Q : Option AV → Mem → Prop} (a0 : Nat) (n0 : Nat) (x1 : Int) (h0 : IsDeeds n0 a0) (h : Mf K d mX3_has [vR a0, vI x1] V (fun r V1 => ∃ z1, r = some (vI z1) ∧ ((z1 = 0 → Q (some (vI (-1))) V1) ∧ (¬ (z1 = 0) → (((0 : Int) ≤ x1 ∧ x1 < (n0 : Nat)) ∧ Q (some (vI (V1 (a0 + 2) (Int.toNat x1)))) V1))))) : Mf K (d + 1) mX3_whichOf [vR a0, vI x1] V Q := by
  refine Mt.of2 (L := [some (vR a0), some (vI x1)]) pnX3 rfl rfl ?_
  refine wp_aload_n dX3_whichOf_0 rfl rfl ?_
  refine wp_iload_n dX3_whichOf_1 rfl rfl ?_
  refine wp_callV (S := []) (as := [vI x1]) dX3_whichOf_2 lX3_31 (h) (by omega) h0.1 rfl rfl (Nat.le_of_ble_eq_true rfl) ⟨Nat.le_refl _, Nat.le_refl _⟩ ?_
  rintro _ _ V1 ⟨rfl, z1, rfl, q1⟩
  show Wp _ _ _ _ _ 5 _ [vI z1] _ _ _ _ _
  refine wp_if_eq (tgt := 17) dX3_whichOf_5 rfl (fun c2 => ?_) (fun c2 => ?_)
  ·
    refine wp_iconst dX3_whichOf_17 (by decide) ?_
    exact wp_ireturn dX3_whichOf_18 rfl ⟨rfl, rfl⟩ ⟨rfl, (q1.1 c2)⟩
  ·
    refine wp_aload_n dX3_whichOf_8 rfl rfl ?_
    refine wp_getR (b := (a0 + 2)) dX3_whichOf_9 fX3_21 rfl h0.1 (by decide) rfl ?_
    refine wp_iload_n dX3_whichOf_12 rfl rfl ?_
    refine wp_iald dX3_whichOf_13 h0.2.2.1 (q1.2 c2).1 ?_
    refine wp_goto (tgt := 18) dX3_whichOf_14 rfl ?_
    exact wp_ireturn dX3_whichOf_18 rfl ⟨rfl, rfl⟩ ⟨rfl, (q1.2 c2).2⟩
set_option maxHeartbeats 4000000 in
set_option maxRecDepth 10000 in
theorem sX3_valueOf {K : KK} {d : Nat} {V : Mem} {Q : Option AV → Mem → Prop} (a0 : Nat) (n0 : Nat) (x1 : Int) (h0 : IsDeeds n0 a0) (h : Mf K d mX3_has [vR a0, vI x1] V (fun r V1 => ∃ z1, r = some (vI z1) ∧ ((z1 = 0 → Q (some (vI (-1))) V1) ∧ (¬ (z1 = 0) → (((0 : Int) ≤ x1 ∧ x1 < (n0 : Nat)) ∧ Q (some (vI (V1 (a0 + 3) (Int.toNat x1)))) V1))))) : Mf K (d + 1) mX3_valueOf [vR a0, vI x1] V Q := by
  refine Mt.of2 (L := [some (vR a0), some (vI x1)]) pnX3 rfl rfl ?_
  refine wp_aload_n dX3_valueOf_0 rfl rfl ?_
  refine wp_iload_n dX3_valueOf_1 rfl rfl ?_
  refine wp_callV (S := []) (as := [vI x1]) dX3_valueOf_2 lX3_31 (h) (by omega) h0.1 rfl rfl (Nat.le_of_ble_eq_true rfl) ⟨Nat.le_refl _, Nat.le_refl _⟩ ?_
  rintro _ _ V1 ⟨rfl, z1, rfl, q1⟩
  show Wp _ _ _ _ _ 5 _ [vI z1] _ _ _ _ _
  refine wp_if_eq (tgt := 17) dX3_valueOf_5 rfl (fun c2 => ?_) (fun c2 => ?_)
  ·
    refine wp_iconst dX3_valueOf_17 (by decide) ?_
    exact wp_ireturn dX3_valueOf_18 rfl ⟨rfl, rfl⟩ ⟨rfl, (q1.1 c2)⟩
  ·
    refine wp_aload_n dX3_valueOf_8 rfl rfl ?_
    refine wp_getR (b := (a0 + 3)) dX3_valueOf_9 fX3_24 rfl h0.1 (by decide) rfl ?_
    refine wp_iload_n dX3_valueOf_12 rfl rfl ?_
    refine wp_iald dX3_valueOf_13 h0.2.2.2.1 (q1.2 c2).1 ?_
    refine wp_goto (tgt := 18) dX3_valueOf_14 rfl ?_
    exact wp_ireturn dX3_valueOf_18 rfl ⟨rfl, rfl⟩ ⟨rfl, (q1.2 c2).2⟩
set_option maxHeartbeats 4000000 in
set_option maxRecDepth 10000 in
theorem sX3_add {K : KK} {d : Nat} {V : Mem} {Q : Option AV → Mem → Prop} (a0 : Nat) (n0 : Nat) (x1 : Int) (x2 : Int) (x3 : Int) (h0 : IsDeeds n0 a0) (h : (((V a0 3) < (n0 : Nat) → (((V a0 3) < 0 → Q none V) ∧ (¬ ((V a0 3) < 0) → (((n0 : Nat) ≤ (V a0 3) → Q none V) ∧ (¬ ((n0 : Nat) ≤ (V a0 3)) → (((0 : Int) ≤ (V a0 3) ∧ (V a0 3) < (n0 : Nat)) ∧ (((0 : Int) ≤ ((upm V (a0 + 1) (Int.toNat (V a0 3)) x1) a0 3) ∧ ((upm V (a0 + 1) (Int.toNat (V a0 3)) x1) a0 3) < (n0 : Nat)) ∧ (((0 : Int) ≤ ((upm (upm V (a0 + 1) (Int.toNat (V a0 3)) x1) (a0 + 2) (Int.toNat ((upm V (a0 + 1) (Int.toNat (V a0 3)) x1) a0 3)) x2) a0 3) ∧ ((upm (upm V (a0 + 1) (Int.toNat (V a0 3)) x1) (a0 + 2) (Int.toNat ((upm V (a0 + 1) (Int.toNat (V a0 3)) x1) a0 3)) x2) a0 3) < (n0 : Nat)) ∧ Q none (upm (upm (upm (upm V (a0 + 1) (Int.toNat (V a0 3)) x1) (a0 + 2) (Int.toNat ((upm V (a0 + 1) (Int.toNat (V a0 3)) x1) a0 3)) x2) (a0 + 3) (Int.toNat ((upm (upm V (a0 + 1) (Int.toNat (V a0 3)) x1) (a0 + 2) (Int.toNat ((upm V (a0 + 1) (Int.toNat (V a0 3)) x1) a0 3)) x2) a0 3)) x3) a0 3 (w32 (((upm (upm (upm V (a0 + 1) (Int.toNat (V a0 3)) x1) (a0 + 2) (Int.toNat ((upm V (a0 + 1) (Int.toNat (V a0 3)) x1) a0 3)) x2) (a0 + 3) (Int.toNat ((upm (upm V (a0 + 1) (Int.toNat (V a0 3)) x1) (a0 + 2) (Int.toNat ((upm V (a0 + 1) (Int.toNat (V a0 3)) x1) a0 3)) x2) a0 3)) x3) a0 3) + 1))))))))))) ∧ (¬ ((V a0 3) < (n0 : Nat)) → Mf K d mX3_forgetOldest [vR a0] V (fun r V4 => r = none ∧ (((V4 a0 3) < 0 → Q none V4) ∧ (¬ ((V4 a0 3) < 0) → (((n0 : Nat) ≤ (V4 a0 3) → Q none V4) ∧ (¬ ((n0 : Nat) ≤ (V4 a0 3)) → (((0 : Int) ≤ (V4 a0 3) ∧ (V4 a0 3) < (n0 : Nat)) ∧ (((0 : Int) ≤ ((upm V4 (a0 + 1) (Int.toNat (V4 a0 3)) x1) a0 3) ∧ ((upm V4 (a0 + 1) (Int.toNat (V4 a0 3)) x1) a0 3) < (n0 : Nat)) ∧ (((0 : Int) ≤ ((upm (upm V4 (a0 + 1) (Int.toNat (V4 a0 3)) x1) (a0 + 2) (Int.toNat ((upm V4 (a0 + 1) (Int.toNat (V4 a0 3)) x1) a0 3)) x2) a0 3) ∧ ((upm (upm V4 (a0 + 1) (Int.toNat (V4 a0 3)) x1) (a0 + 2) (Int.toNat ((upm V4 (a0 + 1) (Int.toNat (V4 a0 3)) x1) a0 3)) x2) a0 3) < (n0 : Nat)) ∧ Q none (upm (upm (upm (upm V4 (a0 + 1) (Int.toNat (V4 a0 3)) x1) (a0 + 2) (Int.toNat ((upm V4 (a0 + 1) (Int.toNat (V4 a0 3)) x1) a0 3)) x2) (a0 + 3) (Int.toNat ((upm (upm V4 (a0 + 1) (Int.toNat (V4 a0 3)) x1) (a0 + 2) (Int.toNat ((upm V4 (a0 + 1) (Int.toNat (V4 a0 3)) x1) a0 3)) x2) a0 3)) x3) a0 3 (w32 (((upm (upm (upm V4 (a0 + 1) (Int.toNat (V4 a0 3)) x1) (a0 + 2) (Int.toNat ((upm V4 (a0 + 1) (Int.toNat (V4 a0 3)) x1) a0 3)) x2) (a0 + 3) (Int.toNat ((upm (upm V4 (a0 + 1) (Int.toNat (V4 a0 3)) x1) (a0 + 2) (Int.toNat ((upm V4 (a0 + 1) (Int.toNat (V4 a0 3)) x1) a0 3)) x2) a0 3)) x3) a0 3) + 1)))))))))))))) : Mf K (d + 1) mX3_add [vR a0, vI x1, vI x2, vI x3] V Q := by
  refine Mt.of2 (L := [some (vR a0), some (vI x1), some (vI x2), some (vI x3)]) pnX3 rfl rfl ?_
  refine wp_aload_n dX3_add_0 rfl rfl ?_
  refine wp_getI dX3_add_1 fX3_27 rfl h0.1 (by decide) ?_
  refine wp_aload_n dX3_add_4 rfl rfl ?_
  refine wp_getR (b := (a0 + 1)) dX3_add_5 fX3_15 rfl h0.1 (by decide) rfl ?_
  refine wp_alen dX3_add_8 h0.2.1 (by decide) h0.2.2.2.2 ?_
  refine wp_icmp_lt (tgt := 16) dX3_add_9 rfl (fun c1 => ?_) (fun c1 => ?_)
  ·
    refine wp_aload_n dX3_add_16 rfl rfl ?_
    refine wp_getI dX3_add_17 fX3_27 rfl h0.1 (by decide) ?_
    refine wp_if_lt (tgt := 75) dX3_add_20 rfl (fun c2 => ?_) (fun c2 => ?_)
    ·
      exact wp_return dX3_add_75 rfl ⟨rfl, rfl⟩ ⟨rfl, ((h.1 c1).1 c2)⟩
    ·
      refine wp_aload_n dX3_add_23 rfl rfl ?_
      refine wp_getI dX3_add_24 fX3_27 rfl h0.1 (by decide) ?_
      refine wp_aload_n dX3_add_27 rfl rfl ?_
      refine wp_getR (b := (a0 + 1)) dX3_add_28 fX3_15 rfl h0.1 (by decide) rfl ?_
      refine wp_alen dX3_add_31 h0.2.1 (by decide) h0.2.2.2.2 ?_
      refine wp_icmp_ge (tgt := 75) dX3_add_32 rfl (fun c3 => ?_) (fun c3 => ?_)
      ·
        exact wp_return dX3_add_75 rfl ⟨rfl, rfl⟩ ⟨rfl, (((h.1 c1).2 c2).1 c3)⟩
      ·
        refine wp_aload_n dX3_add_35 rfl rfl ?_
        refine wp_getR (b := (a0 + 1)) dX3_add_36 fX3_15 rfl h0.1 (by decide) rfl ?_
        refine wp_aload_n dX3_add_39 rfl rfl ?_
        refine wp_getI dX3_add_40 fX3_27 rfl h0.1 (by decide) ?_
        refine wp_iload_n dX3_add_43 rfl rfl ?_
        refine wp_iast dX3_add_44 h0.2.1 (((h.1 c1).2 c2).2 c3).1 ?_
        refine wp_aload_n dX3_add_45 rfl rfl ?_
        refine wp_getR (b := (a0 + 2)) dX3_add_46 fX3_21 rfl h0.1 (by decide) rfl ?_
        refine wp_aload_n dX3_add_49 rfl rfl ?_
        refine wp_getI dX3_add_50 fX3_27 rfl h0.1 (by decide) ?_
        refine wp_iload_n dX3_add_53 rfl rfl ?_
        refine wp_iast dX3_add_54 h0.2.2.1 (((h.1 c1).2 c2).2 c3).2.1 ?_
        refine wp_aload_n dX3_add_55 rfl rfl ?_
        refine wp_getR (b := (a0 + 3)) dX3_add_56 fX3_24 rfl h0.1 (by decide) rfl ?_
        refine wp_aload_n dX3_add_59 rfl rfl ?_
        refine wp_getI dX3_add_60 fX3_27 rfl h0.1 (by decide) ?_
        refine wp_iload_n dX3_add_63 rfl rfl ?_
        refine wp_iast dX3_add_64 h0.2.2.2.1 (((h.1 c1).2 c2).2 c3).2.2.1 ?_
        refine wp_aload_n dX3_add_65 rfl rfl ?_
        refine wp_dup dX3_add_66 rfl ?_
        refine wp_getI dX3_add_67 fX3_27 rfl h0.1 (by decide) ?_
        refine wp_iconst dX3_add_70 (by decide) ?_
        refine wp_iadd dX3_add_71 ?_
        refine wp_putI dX3_add_72 fwX3_27 rfl h0.1 (by decide) ?_
        exact wp_return dX3_add_75 rfl ⟨rfl, rfl⟩ ⟨rfl, (((h.1 c1).2 c2).2 c3).2.2.2⟩
  ·
    refine wp_aload_n dX3_add_12 rfl rfl ?_
    refine wp_callV (S := []) (as := []) dX3_add_13 lX3_35 ((h.2 c1)) (by omega) h0.1 rfl rfl (Nat.le_of_ble_eq_true rfl) ⟨Nat.le_refl _, Nat.le_refl _⟩ ?_
    rintro _ _ V4 ⟨rfl, rfl, q4⟩
    show Wp _ _ _ _ _ 16 _ [] _ _ _ _ _
    refine wp_aload_n dX3_add_16 rfl rfl ?_
    refine wp_getI dX3_add_17 fX3_27 rfl h0.1 (by decide) ?_
    refine wp_if_lt (tgt := 75) dX3_add_20 rfl (fun c5 => ?_) (fun c5 => ?_)
    ·
      exact wp_return dX3_add_75 rfl ⟨rfl, rfl⟩ ⟨rfl, (q4.1 c5)⟩
    ·
      refine wp_aload_n dX3_add_23 rfl rfl ?_
      refine wp_getI dX3_add_24 fX3_27 rfl h0.1 (by decide) ?_
      refine wp_aload_n dX3_add_27 rfl rfl ?_
      refine wp_getR (b := (a0 + 1)) dX3_add_28 fX3_15 rfl h0.1 (by decide) rfl ?_
      refine wp_alen dX3_add_31 h0.2.1 (by decide) h0.2.2.2.2 ?_
      refine wp_icmp_ge (tgt := 75) dX3_add_32 rfl (fun c6 => ?_) (fun c6 => ?_)
      ·
        exact wp_return dX3_add_75 rfl ⟨rfl, rfl⟩ ⟨rfl, ((q4.2 c5).1 c6)⟩
      ·
        refine wp_aload_n dX3_add_35 rfl rfl ?_
        refine wp_getR (b := (a0 + 1)) dX3_add_36 fX3_15 rfl h0.1 (by decide) rfl ?_
        refine wp_aload_n dX3_add_39 rfl rfl ?_
        refine wp_getI dX3_add_40 fX3_27 rfl h0.1 (by decide) ?_
        refine wp_iload_n dX3_add_43 rfl rfl ?_
        refine wp_iast dX3_add_44 h0.2.1 ((q4.2 c5).2 c6).1 ?_
        refine wp_aload_n dX3_add_45 rfl rfl ?_
        refine wp_getR (b := (a0 + 2)) dX3_add_46 fX3_21 rfl h0.1 (by decide) rfl ?_
        refine wp_aload_n dX3_add_49 rfl rfl ?_
        refine wp_getI dX3_add_50 fX3_27 rfl h0.1 (by decide) ?_
        refine wp_iload_n dX3_add_53 rfl rfl ?_
        refine wp_iast dX3_add_54 h0.2.2.1 ((q4.2 c5).2 c6).2.1 ?_
        refine wp_aload_n dX3_add_55 rfl rfl ?_
        refine wp_getR (b := (a0 + 3)) dX3_add_56 fX3_24 rfl h0.1 (by decide) rfl ?_
        refine wp_aload_n dX3_add_59 rfl rfl ?_
        refine wp_getI dX3_add_60 fX3_27 rfl h0.1 (by decide) ?_
        refine wp_iload_n dX3_add_63 rfl rfl ?_
        refine wp_iast dX3_add_64 h0.2.2.2.1 ((q4.2 c5).2 c6).2.2.1 ?_
        refine wp_aload_n dX3_add_65 rfl rfl ?_
        refine wp_dup dX3_add_66 rfl ?_
        refine wp_getI dX3_add_67 fX3_27 rfl h0.1 (by decide) ?_
        refine wp_iconst dX3_add_70 (by decide) ?_
        refine wp_iadd dX3_add_71 ?_
        refine wp_putI dX3_add_72 fwX3_27 rfl h0.1 (by decide) ?_
        exact wp_return dX3_add_75 rfl ⟨rfl, rfl⟩ ⟨rfl, ((q4.2 c5).2 c6).2.2.2⟩
set_option maxHeartbeats 4000000 in
set_option maxRecDepth 10000 in
theorem sX3_forgetOldest {K : KK} {d : Nat} {V : Mem} {Q : Option AV → Mem → Prop} (a0 : Nat) (n0 : Nat) (h0 : IsDeeds n0 a0) (h : Wf K d mX3_forgetOldest 2 [some (vR a0), some (vI 1)] [] V Q) : Mf K d mX3_forgetOldest [vR a0] V Q := by
  refine Mt.of2 (L := [some (vR a0), none]) pnX3 rfl rfl ?_
  refine wp_iconst dX3_forgetOldest_0 (by decide) ?_
  refine wp_istore_n dX3_forgetOldest_1 rfl (by decide) rfl ?_
  exact h
set_option maxHeartbeats 4000000 in
set_option maxRecDepth 10000 in
theorem sX3_forgetOldest_2 {K : KK} {d : Nat} {V : Mem} {Q : Option AV → Mem → Prop} (a0 : Nat) (n0 : Nat) (x1 : Int) (h0 : IsDeeds n0 a0) (h : (((n0 : Nat) ≤ x1 → Q none (upm V a0 3 (w32 ((n0 : Nat) - 1)))) ∧ (¬ ((n0 : Nat) ≤ x1) → (((0 : Int) ≤ x1 ∧ x1 < (n0 : Nat)) ∧ (((0 : Int) ≤ (w32 (x1 - 1)) ∧ (w32 (x1 - 1)) < (n0 : Nat)) ∧ (((0 : Int) ≤ x1 ∧ x1 < (n0 : Nat)) ∧ (((0 : Int) ≤ (w32 (x1 - 1)) ∧ (w32 (x1 - 1)) < (n0 : Nat)) ∧ (((0 : Int) ≤ x1 ∧ x1 < (n0 : Nat)) ∧ (((0 : Int) ≤ (w32 (x1 - 1)) ∧ (w32 (x1 - 1)) < (n0 : Nat)) ∧ Wf K d mX3_forgetOldest 2 [some (vR a0), some (vI (w32 (x1 + 1)))] [] (upm (upm (upm V (a0 + 1) (Int.toNat (w32 (x1 - 1))) (V (a0 + 1) (Int.toNat x1))) (a0 + 2) (Int.toNat (w32 (x1 - 1))) ((upm V (a0 + 1) (Int.toNat (w32 (x1 - 1))) (V (a0 + 1) (Int.toNat x1))) (a0 + 2) (Int.toNat x1))) (a0 + 3) (Int.toNat (w32 (x1 - 1))) ((upm (upm V (a0 + 1) (Int.toNat (w32 (x1 - 1))) (V (a0 + 1) (Int.toNat x1))) (a0 + 2) (Int.toNat (w32 (x1 - 1))) ((upm V (a0 + 1) (Int.toNat (w32 (x1 - 1))) (V (a0 + 1) (Int.toNat x1))) (a0 + 2) (Int.toNat x1))) (a0 + 3) (Int.toNat x1))) Q))))))))) : Wf K d mX3_forgetOldest 2 [some (vR a0), some (vI x1)] [] V Q := by
  refine wp_iload_n dX3_forgetOldest_2 rfl rfl ?_
  refine wp_aload_n dX3_forgetOldest_3 rfl rfl ?_
  refine wp_getR (b := (a0 + 1)) dX3_forgetOldest_4 fX3_15 rfl h0.1 (by decide) rfl ?_
  refine wp_alen dX3_forgetOldest_7 h0.2.1 (by decide) h0.2.2.2.2 ?_
  refine wp_icmp_ge (tgt := 59) dX3_forgetOldest_8 rfl (fun c1 => ?_) (fun c1 => ?_)
  ·
    refine wp_aload_n dX3_forgetOldest_59 rfl rfl ?_
    refine wp_aload_n dX3_forgetOldest_60 rfl rfl ?_
    refine wp_getR (b := (a0 + 1)) dX3_forgetOldest_61 fX3_15 rfl h0.1 (by decide) rfl ?_
    refine wp_alen dX3_forgetOldest_64 h0.2.1 (by decide) h0.2.2.2.2 ?_
    refine wp_iconst dX3_forgetOldest_65 (by decide) ?_
    refine wp_isub dX3_forgetOldest_66 ?_
    refine wp_putI dX3_forgetOldest_67 fwX3_27 rfl h0.1 (by decide) ?_
    exact wp_return dX3_forgetOldest_70 rfl ⟨rfl, rfl⟩ ⟨rfl, (h.1 c1)⟩
  ·
    refine wp_aload_n dX3_forgetOldest_11 rfl rfl ?_
    refine wp_getR (b := (a0 + 1)) dX3_forgetOldest_12 fX3_15 rfl h0.1 (by decide) rfl ?_
    refine wp_iload_n dX3_forgetOldest_15 rfl rfl ?_
    refine wp_iconst dX3_forgetOldest_16 (by decide) ?_
    refine wp_isub dX3_forgetOldest_17 ?_
    refine wp_aload_n dX3_forgetOldest_18 rfl rfl ?_
    refine wp_getR (b := (a0 + 1)) dX3_forgetOldest_19 fX3_15 rfl h0.1 (by decide) rfl ?_
    refine wp_iload_n dX3_forgetOldest_22 rfl rfl ?_
    refine wp_iald dX3_forgetOldest_23 h0.2.1 (h.2 c1).1 ?_
    refine wp_iast dX3_forgetOldest_24 h0.2.1 (h.2 c1).2.1 ?_
    refine wp_aload_n dX3_forgetOldest_25 rfl rfl ?_
    refine wp_getR (b := (a0 + 2)) dX3_forgetOldest_26 fX3_21 rfl h0.1 (by decide) rfl ?_
    refine wp_iload_n dX3_forgetOldest_29 rfl rfl ?_
    refine wp_iconst dX3_forgetOldest_30 (by decide) ?_
    refine wp_isub dX3_forgetOldest_31 ?_
    refine wp_aload_n dX3_forgetOldest_32 rfl rfl ?_
    refine wp_getR (b := (a0 + 2)) dX3_forgetOldest_33 fX3_21 rfl h0.1 (by decide) rfl ?_
    refine wp_iload_n dX3_forgetOldest_36 rfl rfl ?_
    refine wp_iald dX3_forgetOldest_37 h0.2.2.1 (h.2 c1).2.2.1 ?_
    refine wp_iast dX3_forgetOldest_38 h0.2.2.1 (h.2 c1).2.2.2.1 ?_
    refine wp_aload_n dX3_forgetOldest_39 rfl rfl ?_
    refine wp_getR (b := (a0 + 3)) dX3_forgetOldest_40 fX3_24 rfl h0.1 (by decide) rfl ?_
    refine wp_iload_n dX3_forgetOldest_43 rfl rfl ?_
    refine wp_iconst dX3_forgetOldest_44 (by decide) ?_
    refine wp_isub dX3_forgetOldest_45 ?_
    refine wp_aload_n dX3_forgetOldest_46 rfl rfl ?_
    refine wp_getR (b := (a0 + 3)) dX3_forgetOldest_47 fX3_24 rfl h0.1 (by decide) rfl ?_
    refine wp_iload_n dX3_forgetOldest_50 rfl rfl ?_
    refine wp_iald dX3_forgetOldest_51 h0.2.2.2.1 (h.2 c1).2.2.2.2.1 ?_
    refine wp_iast dX3_forgetOldest_52 h0.2.2.2.1 (h.2 c1).2.2.2.2.2.1 ?_
    refine wp_iinc dX3_forgetOldest_53 rfl rfl ?_
    refine wp_goto (tgt := 2) dX3_forgetOldest_56 rfl ?_
    exact (h.2 c1).2.2.2.2.2.2
set_option maxHeartbeats 4000000 in
set_option maxRecDepth 10000 in
theorem sX3_copyFrom {K : KK} {d : Nat} {V : Mem} {Q : Option AV → Mem → Prop} (a0 : Nat) (n0 : Nat) (a1 n1 : Nat) (h0 : IsDeeds n0 a0) (h1 : IsDeeds n1 a1) (h : Wf K (d + 1) mX3_copyFrom 7 [some (vR a0), some (vR a1), some (vI 0)] [] (upm V a0 3 0) Q) : Mf K (d + 1) mX3_copyFrom [vR a0, vR a1] V Q := by
  refine Mt.of2 (L := [some (vR a0), some (vR a1), none]) pnX3 rfl rfl ?_
  refine wp_aload_n dX3_copyFrom_0 rfl rfl ?_
  refine wp_iconst dX3_copyFrom_1 (by decide) ?_
  refine wp_putI dX3_copyFrom_2 fwX3_27 rfl h0.1 (by decide) ?_
  refine wp_iconst dX3_copyFrom_5 (by decide) ?_
  refine wp_istore_n dX3_copyFrom_6 rfl (by decide) rfl ?_
  exact h
set_option maxHeartbeats 4000000 in
set_option maxRecDepth 10000 in
theorem sX3_copyFrom_7 {K : KK} {d : Nat} {V : Mem} {Q : Option AV → Mem → Prop} (a0 : Nat) (n0 : Nat) (a1 n1 : Nat) (x2 : Int) (h0 : IsDeeds n0 a0) (h1 : IsDeeds n1 a1) (h : (((V a1 3) ≤ x2 → Q none V) ∧ (¬ ((V a1 3) ≤ x2) → Mf K d mX3_verbOf [vR a1, vI x2] V (fun r V2 => ∃ z2, r = some (vI z2) ∧ Mf K d mX3_whichOf [vR a1, vI x2] V2 (fun r V3 => ∃ z3, r = some (vI z3) ∧ Mf K d mX3_valueOf [vR a1, vI x2] V3 (fun r V4 => ∃ z4, r = some (vI z4) ∧ Mf K d mX3_add [vR a0, vI z2, vI z3, vI z4] V4 (fun r V5 => r = none ∧ Wf K (d + 1) mX3_copyFrom 7 [some (vR a0), some (vR a1), some (vI (w32 (x2 + 1)))] [] V5 Q))))))) : Wf K (d + 1) mX3_copyFrom 7 [some (vR a0), some (vR a1), some (vI x2)] [] V Q := by
  refine wp_iload_n dX3_copyFrom_7 rfl rfl ?_
  refine wp_aload_n dX3_copyFrom_8 rfl rfl ?_
  refine wp_getI dX3_copyFrom_9 fX3_27 rfl h1.1 (by decide) ?_
  refine wp_icmp_ge (tgt := 40) dX3_copyFrom_12 rfl (fun c1 => ?_) (fun c1 => ?_)
  ·
    exact wp_return dX3_copyFrom_40 rfl ⟨rfl, rfl⟩ ⟨rfl, (h.1 c1)⟩
  ·
    refine wp_aload_n dX3_copyFrom_15 rfl rfl ?_
    refine wp_aload_n dX3_copyFrom_16 rfl rfl ?_
    refine wp_iload_n dX3_copyFrom_17 rfl rfl ?_
    refine wp_callV (S := [vR a0]) (as := [vI x2]) dX3_copyFrom_18 lX3_38 ((h.2 c1)) (by omega) h1.1 rfl rfl (Nat.le_of_ble_eq_true rfl) ⟨Nat.le_refl _, Nat.le_refl _⟩ ?_
    rintro _ _ V2 ⟨rfl, z2, rfl, q2⟩
    show Wp _ _ _ _ _ 21 _ [vI z2, vR a0] _ _ _ _ _
    refine wp_aload_n dX3_copyFrom_21 rfl rfl ?_
    refine wp_iload_n dX3_copyFrom_22 rfl rfl ?_
    refine wp_callV (S := [vI z2, vR a0]) (as := [vI x2]) dX3_copyFrom_23 lX3_42 (q2) (by omega) h1.1 rfl rfl (Nat.le_of_ble_eq_true rfl) ⟨Nat.le_refl _, Nat.le_refl _⟩ ?_
    rintro _ _ V3 ⟨rfl, z3, rfl, q3⟩
    show Wp _ _ _ _ _ 26 _ [vI z3, vI z2, vR a0] _ _ _ _ _
    refine wp_aload_n dX3_copyFrom_26 rfl rfl ?_
    refine wp_iload_n dX3_copyFrom_27 rfl rfl ?_
    refine wp_callV (S := [vI z3, vI z2, vR a0]) (as := [vI x2]) dX3_copyFrom_28 lX3_45 (q3) (by omega) h1.1 rfl rfl (Nat.le_of_ble_eq_true rfl) ⟨Nat.le_refl _, Nat.le_refl _⟩ ?_
    rintro _ _ V4 ⟨rfl, z4, rfl, q4⟩
    show Wp _ _ _ _ _ 31 _ [vI z4, vI z3, vI z2, vR a0] _ _ _ _ _
    refine wp_callV (S := []) (as := [vI z2, vI z3, vI z4]) dX3_copyFrom_31 lX3_48 (q4) (by omega) h0.1 rfl rfl (Nat.le_of_ble_eq_true rfl) ⟨Nat.le_refl _, Nat.le_refl _⟩ ?_
    rintro _ _ V5 ⟨rfl, rfl, q5⟩
    show Wp _ _ _ _ _ 34 _ [] _ _ _ _ _
    refine wp_iinc dX3_copyFrom_34 rfl rfl ?_
    refine wp_goto (tgt := 7) dX3_copyFrom_37 rfl ?_
    exact q5
set_option maxHeartbeats 4000000 in
set_option maxRecDepth 10000 in
theorem sX4_bePlain {K : KK} {d : Nat} {V : Mem} {Q : Option AV → Mem → Prop} (a0 : Nat) (h0 : IsLaw a0) (h : Mf K d mX4_add [vR a0, vI (-143)] (upm V a0 2 0) (fun r V1 => r = none ∧ Q none V1)) : Mf K (d + 1) mX4_bePlain [vR a0] V Q := by
  refine Mt.of2 (L := [some (vR a0)]) pnX4 rfl rfl ?_
  refine wp_aload_n dX4_bePlain_0 rfl rfl ?_
  refine wp_iconst dX4_bePlain_1 (by decide) ?_
  refine wp_putI dX4_bePlain_2 fwX4_18 rfl h0.1 (by decide) ?_
  refine wp_aload_n dX4_bePlain_5 rfl rfl ?_
  refine wp_sipush dX4_bePlain_6 (by decide) ?_
  refine wp_callV (S := []) (as := [vI (-143)]) dX4_bePlain_9 lX4_22 (h) (by omega) h0.1 rfl rfl (Nat.le_of_ble_eq_true rfl) ⟨Nat.le_refl _, Nat.le_refl _⟩ ?_
  rintro _ _ V1 ⟨rfl, rfl, q1⟩
  show Wp _ _ _ _ _ 12 _ [] _ _ _ _ _
  exact wp_return dX4_bePlain_12 rfl ⟨rfl, rfl⟩ ⟨rfl, q1⟩
set_option maxHeartbeats 4000000 in
set_option maxRecDepth 10000 in
theorem sX4_add {K : KK} {d : Nat} {V : Mem} {Q : Option AV → Mem → Prop} (a0 : Nat) (x1 : Int) (h0 : IsLaw a0) (h : (((V a0 2) < 0 → Q none V) ∧ (¬ ((V a0 2) < 0) → ((1000 ≤ (V a0 2) → Q none V) ∧ (¬ (1000 ≤ (V a0 2)) → (((0 : Int) ≤ (V a0 2) ∧ (V a0 2) < (1000 : Nat)) ∧ Q none (upm (upm V (a0 + 1) (Int.toNat (V a0 2)) x1) a0 2 (w32 (((upm V (a0 + 1) (Int.toNat (V a0 2)) x1) a0 2) + 1))))))))) : Mf K d mX4_add [vR a0, vI x1] V Q := by
  refine Mt.of2 (L := [some (vR a0), some (vI x1)]) pnX4 rfl rfl ?_
  refine wp_aload_n dX4_add_0 rfl rfl ?_
  refine wp_getI dX4_add_1 fX4_18 rfl h0.1 (by decide) ?_
  refine wp_if_lt (tgt := 39) dX4_add_4 rfl (fun c1 => ?_) (fun c1 => ?_)
  ·
    exact wp_return dX4_add_39 rfl ⟨rfl, rfl⟩ ⟨rfl, (h.1 c1)⟩
  ·
    refine wp_aload_n dX4_add_7 rfl rfl ?_
    refine wp_getI dX4_add_8 fX4_18 rfl h0.1 (by decide) ?_
    refine wp_aload_n dX4_add_11 rfl rfl ?_
    refine wp_getR (b := (a0 + 1)) dX4_add_12 fX4_9 rfl h0.1 (by decide) rfl ?_
    refine wp_alen dX4_add_15 h0.2.1 (by decide) (by decide) ?_
    refine wp_icmp_ge (tgt := 39) dX4_add_16 rfl (fun c2 => ?_) (fun c2 => ?_)
    ·
      exact wp_return dX4_add_39 rfl ⟨rfl, rfl⟩ ⟨rfl, ((h.2 c1).1 c2)⟩
    ·
      refine wp_aload_n dX4_add_19 rfl rfl ?_
      refine wp_getR (b := (a0 + 1)) dX4_add_20 fX4_9 rfl h0.1 (by decide) rfl ?_
      refine wp_aload_n dX4_add_23 rfl rfl ?_
      refine wp_getI dX4_add_24 fX4_18 rfl h0.1 (by decide) ?_
      refine wp_iload_n dX4_add_27 rfl rfl ?_
      refine wp_iast dX4_add_28 h0.2.1 ((h.2 c1).2 c2).1 ?_
      refine wp_aload_n dX4_add_29 rfl rfl ?_
      refine wp_dup dX4_add_30 rfl ?_
      refine wp_getI dX4_add_31 fX4_18 rfl h0.1 (by decide) ?_
      refine wp_iconst dX4_add_34 (by decide) ?_
      refine wp_iadd dX4_add_35 ?_
      refine wp_putI dX4_add_36 fwX4_18 rfl h0.1 (by decide) ?_
      exact wp_return dX4_add_39 rfl ⟨rfl, rfl⟩ ⟨rfl, ((h.2 c1).2 c2).2⟩
set_option maxHeartbeats 4000000 in
set_option maxRecDepth 10000 in
theorem sX4_copyFrom {K : KK} {d : Nat} {V : Mem} {Q : Option AV → Mem → Prop} (a0 : Nat) (a1 : Nat) (h0 : IsLaw a0) (h1 : IsLaw a1) (hE : kE K = false) (h : Q none (upm (cpm V (a1 + 1) (Int.toNat 0) (a0 + 1) (Int.toNat 0) (Int.toNat 1000)) a0 2 ((cpm V (a1 + 1) (Int.toNat 0) (a0 + 1) (Int.toNat 0) (Int.toNat 1000)) a1 2))) : Mf K (d + 1) mX4_copyFrom [vR a0, vR a1] V Q := by
  refine Mt.of2 (L := [some (vR a0), some (vR a1)]) pnX4 rfl rfl ?_
  refine wp_aload_n dX4_copyFrom_0 rfl rfl ?_
  refine wp_getR (b := (a1 + 1)) dX4_copyFrom_1 fX4_9 rfl h1.1 (by decide) rfl ?_
  refine wp_iconst dX4_copyFrom_4 (by decide) ?_
  refine wp_aload_n dX4_copyFrom_5 rfl rfl ?_
  refine wp_getR (b := (a0 + 1)) dX4_copyFrom_6 fX4_9 rfl h0.1 (by decide) rfl ?_
  refine wp_iconst dX4_copyFrom_9 (by decide) ?_
  refine wp_aload_n dX4_copyFrom_10 rfl rfl ?_
  refine wp_getR (b := (a0 + 1)) dX4_copyFrom_11 fX4_9 rfl h0.1 (by decide) rfl ?_
  refine wp_alen dX4_copyFrom_14 h0.2.1 (by decide) (by decide) ?_
  refine wp_copy dX4_copyFrom_15 lX4_26 hE (by omega) (Nat.le_of_ble_eq_true rfl) h1.2.1 h0.2.1 (by decide) ?_
  refine wp_aload_n dX4_copyFrom_18 rfl rfl ?_
  refine wp_aload_n dX4_copyFrom_19 rfl rfl ?_
  refine wp_getI dX4_copyFrom_20 fX4_18 rfl h1.1 (by decide) ?_
  refine wp_putI dX4_copyFrom_23 fwX4_18 rfl h0.1 (by decide) ?_
  exact wp_return dX4_copyFrom_26 rfl ⟨rfl, rfl⟩ ⟨rfl, h⟩
set_option maxHeartbeats 4000000 in
set_option maxRecDepth 10000 in
theorem sX4_weigh {K : KK} {d : Nat} {V : Mem} {Q : Option AV → Mem → Prop} (a0 : Nat) (x1 : Int) (x2 : Int) (x3 : Int) (x4 : Int) (h0 : IsLaw a0) (h : Wf K (d + 1) mX4_weigh 6 [some (vR a0), some (vI x1), some (vI x2), some (vI x3), some (vI x4), some (vI 0), some (vI 0), none] [] V Q) : Mf K (d + 1) mX4_weigh [vR a0, vI x1, vI x2, vI x3, vI x4] V Q := by
  refine Mt.of2 (L := [some (vR a0), some (vI x1), some (vI x2), some (vI x3), some (vI x4), none, none, none]) pnX4 rfl rfl ?_
  refine wp_iconst dX4_weigh_0 (by decide) ?_
  refine wp_istore dX4_weigh_1 (by decide) rfl ?_
  refine wp_iconst dX4_weigh_3 (by decide) ?_
  refine wp_istore dX4_weigh_4 (by decide) rfl ?_
  exact h
set_option maxHeartbeats 4000000 in
set_option maxRecDepth 10000 in
theorem sX4_weigh_6 {K : KK} {d : Nat} {V : Mem} {Q : Option AV → Mem → Prop} (a0 : Nat) (x1 : Int) (x2 : Int) (x3 : Int) (x4 : Int) (x5 : Int) (x6 : Int) (h0 : IsLaw a0) (h : (((V a0 2) ≤ x6 → Wf K (d + 1) mX4_weigh 169 [some (vR a0), none, none, none, none, some (vI x5), none, none] [] V Q) ∧ (¬ ((V a0 2) ≤ x6) → ((1000 ≤ x6 → Wf K (d + 1) mX4_weigh 169 [some (vR a0), none, none, none, none, some (vI x5), none, none] [] V Q) ∧ (¬ (1000 ≤ x6) → (((0 : Int) ≤ x6 ∧ x6 < (1000 : Nat)) ∧ ((¬ (w32 (- (V (a0 + 1) (Int.toNat x6)))) = 140 → (((w32 (- (V (a0 + 1) (Int.toNat x6)))) ≤ 0 → Wf K (d + 1) mX4_weigh 133 [some (vR a0), some (vI x1), some (vI x2), some (vI x3), some (vI x4), some (vI x5), some (vI x6), some (vI (w32 (- (V (a0 + 1) (Int.toNat x6)))))] [] V Q) ∧ (¬ ((w32 (- (V (a0 + 1) (Int.toNat x6)))) ≤ 0) → ((143 ≤ (w32 (- (V (a0 + 1) (Int.toNat x6)))) → Wf K (d + 1) mX4_weigh 133 [some (vR a0), some (vI x1), some (vI x2), some (vI x3), some (vI x4), some (vI x5), some (vI x6), some (vI (w32 (- (V (a0 + 1) (Int.toNat x6)))))] [] V Q) ∧ (¬ (143 ≤ (w32 (- (V (a0 + 1) (Int.toNat x6))))) → ((x5 < 2 → Wf K (d + 1) mX4_weigh 163 [some (vR a0), some (vI x1), some (vI x2), some (vI x3), some (vI x4), some (vI x5), some (vI x6), none] [] V Q) ∧ (¬ (x5 < 2) → (((0 : Int) ≤ (w32 ((w32 (x5 + (-1))) - 1)) ∧ (w32 ((w32 (x5 + (-1))) - 1)) < (32 : Nat)) ∧ (((0 : Int) ≤ (w32 (x5 + (-1))) ∧ (w32 (x5 + (-1))) < (32 : Nat)) ∧ Mf K d mX4_result [vI (w32 (- (V (a0 + 1) (Int.toNat x6)))), vI (V (a0 + 2) (Int.toNat (w32 ((w32 (x5 + (-1))) - 1)))), vI (V (a0 + 2) (Int.toNat (w32 (x5 + (-1)))))] V (fun r V7 => ∃ z7, r = some (vI z7) ∧ (((0 : Int) ≤ (w32 ((w32 (x5 + (-1))) - 1)) ∧ (w32 ((w32 (x5 + (-1))) - 1)) < (32 : Nat)) ∧ Wf K (d + 1) mX4_weigh 163 [some (vR a0), some (vI x1), some (vI x2), some (vI x3), some (vI x4), some (vI (w32 (x5 + (-1)))), some (vI x6), none] [] (upm V7 (a0 + 2) (Int.toNat (w32 ((w32 (x5 + (-1))) - 1))) z7) Q))))))))))) ∧ ((w32 (- (V (a0 + 1) (Int.toNat x6)))) = 140 → ((x5 < 1 → Wf K (d + 1) mX4_weigh 163 [some (vR a0), some (vI x1), some (vI x2), some (vI x3), some (vI x4), some (vI x5), some (vI x6), none] [] V Q) ∧ (¬ (x5 < 1) → (((0 : Int) ≤ (w32 (x5 - 1)) ∧ (w32 (x5 - 1)) < (32 : Nat)) ∧ ((¬ (V (a0 + 2) (Int.toNat (w32 (x5 - 1)))) = 0 → Wf K (d + 1) mX4_weigh 74 [some (vR a0), some (vI x1), some (vI x2), some (vI x3), some (vI x4), some (vI x5), some (vI x6), none] [vI 0, vI (w32 (x5 - 1)), vR (a0 + 2)] V Q) ∧ ((V (a0 + 2) (Int.toNat (w32 (x5 - 1)))) = 0 → Wf K (d + 1) mX4_weigh 74 [some (vR a0), some (vI x1), some (vI x2), some (vI x3), some (vI x4), some (vI x5), some (vI x6), none] [vI 1, vI (w32 (x5 - 1)), vR (a0 + 2)] V Q))))))))))))) : Wf K (d + 1) mX4_weigh 6 [some (vR a0), some (vI x1), some (vI x2), some (vI x3), some (vI x4), some (vI x5), some (vI x6), none] [] V Q := by
  refine wp_iload dX4_weigh_6 rfl ?_
  refine wp_aload_n dX4_weigh_8 rfl rfl ?_
  refine wp_getI dX4_weigh_9 fX4_18 rfl h0.1 (by decide) ?_
  refine wp_icmp_ge (tgt := 169) dX4_weigh_12 rfl (fun c1 => ?_) (fun c1 => ?_)
  ·
    exact wp_loc (L2 := [some (vR a0), none, none, none, none, some (vI x5), none, none]) ⟨rfl, ⟨rfl, trivial⟩⟩ (h.1 c1)
  ·
    refine wp_iload dX4_weigh_15 rfl ?_
    refine wp_aload_n dX4_weigh_17 rfl rfl ?_
    refine wp_getR (b := (a0 + 1)) dX4_weigh_18 fX4_9 rfl h0.1 (by decide) rfl ?_
    refine wp_alen dX4_weigh_21 h0.2.1 (by decide) (by decide) ?_
    refine wp_icmp_ge (tgt := 169) dX4_weigh_22 rfl (fun c2 => ?_) (fun c2 => ?_)
    ·
      exact wp_loc (L2 := [some (vR a0), none, none, none, none, some (vI x5), none, none]) ⟨rfl, ⟨rfl, trivial⟩⟩ ((h.2 c1).1 c2)
    ·
      refine wp_aload_n dX4_weigh_25 rfl rfl ?_
      refine wp_getR (b := (a0 + 1)) dX4_weigh_26 fX4_9 rfl h0.1 (by decide) rfl ?_
      refine wp_iload dX4_weigh_29 rfl ?_
      refine wp_iald dX4_weigh_31 h0.2.1 ((h.2 c1).2 c2).1 ?_
      refine wp_ineg dX4_weigh_32 ?_
      refine wp_istore dX4_weigh_33 (by decide) rfl ?_
      refine wp_iload dX4_weigh_35 rfl ?_
      refine wp_sipush dX4_weigh_37 (by decide) ?_
      refine wp_icmp_ne (tgt := 78) dX4_weigh_40 rfl (fun c3 => ?_) (fun c3 => ?_)
      ·
        refine wp_iload dX4_weigh_78 rfl ?_
        refine wp_if_le (tgt := 133) dX4_weigh_80 rfl (fun c4 => ?_) (fun c4 => ?_)
        ·
          exact ((((h.2 c1).2 c2).2.1 c3).1 c4)
        ·
          refine wp_iload dX4_weigh_83 rfl ?_
          refine wp_sipush dX4_weigh_85 (by decide) ?_
          refine wp_icmp_ge (tgt := 133) dX4_weigh_88 rfl (fun c5 => ?_) (fun c5 => ?_)
          ·
            exact (((((h.2 c1).2 c2).2.1 c3).2 c4).1 c5)
          ·
            refine wp_iload dX4_weigh_91 rfl ?_
            refine wp_iconst dX4_weigh_93 (by decide) ?_
            refine wp_icmp_lt (tgt := 163) dX4_weigh_94 rfl (fun c6 => ?_) (fun c6 => ?_)
            ·
              exact wp_loc (L2 := [some (vR a0), some (vI x1), some (vI x2), some (vI x3), some (vI x4), some (vI x5), some (vI x6), none]) ⟨rfl, ⟨rfl, ⟨rfl, ⟨rfl, ⟨rfl, ⟨rfl, ⟨rfl, trivial⟩⟩⟩⟩⟩⟩⟩ ((((((h.2 c1).2 c2).2.1 c3).2 c4).2 c5).1 c6)
            ·
              refine wp_iinc dX4_weigh_97 rfl rfl ?_
              refine wp_aload_n dX4_weigh_100 rfl rfl ?_
              refine wp_getR (b := (a0 + 2)) dX4_weigh_101 fX4_15 rfl h0.1 (by decide) rfl ?_
              refine wp_iload dX4_weigh_104 rfl ?_
              refine wp_iconst dX4_weigh_106 (by decide) ?_
              refine wp_isub dX4_weigh_107 ?_
              refine wp_iload dX4_weigh_108 rfl ?_
              refine wp_aload_n dX4_weigh_110 rfl rfl ?_
              refine wp_getR (b := (a0 + 2)) dX4_weigh_111 fX4_15 rfl h0.1 (by decide) rfl ?_
              refine wp_iload dX4_weigh_114 rfl ?_
              refine wp_iconst dX4_weigh_116 (by decide) ?_
              refine wp_isub dX4_weigh_117 ?_
              refine wp_iald dX4_weigh_118 h0.2.2 ((((((h.2 c1).2 c2).2.1 c3).2 c4).2 c5).2 c6).1 ?_
              refine wp_aload_n dX4_weigh_119 rfl rfl ?_
              refine wp_getR (b := (a0 + 2)) dX4_weigh_120 fX4_15 rfl h0.1 (by decide) rfl ?_
              refine wp_iload dX4_weigh_123 rfl ?_
              refine wp_iald dX4_weigh_125 h0.2.2 ((((((h.2 c1).2 c2).2.1 c3).2 c4).2 c5).2 c6).2.1 ?_
              refine wp_callS (S := [vI (w32 ((w32 (x5 + (-1))) - 1)), vR (a0 + 2)]) (as := [vI (w32 (- (V (a0 + 1) (Int.toNat x6)))), vI (V (a0 + 2) (Int.toNat (w32 ((w32 (x5 + (-1))) - 1)))), vI (V (a0 + 2) (Int.toNat (w32 (x5 + (-1)))))]) dX4_weigh_126 lX4_32 (((((((h.2 c1).2 c2).2.1 c3).2 c4).2 c5).2 c6).2.2) (by omega) rfl rfl (Nat.le_of_ble_eq_true rfl) ⟨Nat.le_refl _, Nat.le_refl _⟩ ?_
              rintro _ _ V7 ⟨rfl, z7, rfl, q7⟩
              show Wp _ _ _ _ _ 129 _ [vI z7, vI (w32 ((w32 (x5 + (-1))) - 1)), vR (a0 + 2)] _ _ _ _ _
              refine wp_iast dX4_weigh_129 h0.2.2 q7.1 ?_
              refine wp_goto (tgt := 163) dX4_weigh_130 rfl ?_
              exact wp_loc (L2 := [some (vR a0), some (vI x1), some (vI x2), some (vI x3), some (vI x4), some (vI (w32 (x5 + (-1)))), some (vI x6), none]) ⟨rfl, ⟨rfl, ⟨rfl, ⟨rfl, ⟨rfl, ⟨rfl, ⟨rfl, trivial⟩⟩⟩⟩⟩⟩⟩ q7.2
      ·
        refine wp_iload dX4_weigh_43 rfl ?_
        refine wp_iconst dX4_weigh_45 (by decide) ?_
        refine wp_icmp_lt (tgt := 163) dX4_weigh_46 rfl (fun c8 => ?_) (fun c8 => ?_)
        ·
          exact wp_loc (L2 := [some (vR a0), some (vI x1), some (vI x2), some (vI x3), some (vI x4), some (vI x5), some (vI x6), none]) ⟨rfl, ⟨rfl, ⟨rfl, ⟨rfl, ⟨rfl, ⟨rfl, ⟨rfl, trivial⟩⟩⟩⟩⟩⟩⟩ ((((h.2 c1).2 c2).2.2 c3).1 c8)
        ·
          refine wp_aload_n dX4_weigh_49 rfl rfl ?_
          refine wp_getR (b := (a0 + 2)) dX4_weigh_50 fX4_15 rfl h0.1 (by decide) rfl ?_
          refine wp_iload dX4_weigh_53 rfl ?_
          refine wp_iconst dX4_weigh_55 (by decide) ?_
          refine wp_isub dX4_weigh_56 ?_
          refine wp_aload_n dX4_weigh_57 rfl rfl ?_
          refine wp_getR (b := (a0 + 2)) dX4_weigh_58 fX4_15 rfl h0.1 (by decide) rfl ?_
          refine wp_iload dX4_weigh_61 rfl ?_
          refine wp_iconst dX4_weigh_63 (by decide) ?_
          refine wp_isub dX4_weigh_64 ?_
          refine wp_iald dX4_weigh_65 h0.2.2 ((((h.2 c1).2 c2).2.2 c3).2 c8).1 ?_
          refine wp_if_ne (tgt := 73) dX4_weigh_66 rfl (fun c9 => ?_) (fun c9 => ?_)
          ·
            refine wp_iconst dX4_weigh_73 (by decide) ?_
            exact wp_loc (L2 := [some (vR a0), some (vI x1), some (vI x2), some (vI x3), some (vI x4), some (vI x5), some (vI x6), none]) ⟨rfl, ⟨rfl, ⟨rfl, ⟨rfl, ⟨rfl, ⟨rfl, ⟨rfl, trivial⟩⟩⟩⟩⟩⟩⟩ (((((h.2 c1).2 c2).2.2 c3).2 c8).2.1 c9)
          ·
            refine wp_iconst dX4_weigh_69 (by decide) ?_
            refine wp_goto (tgt := 74) dX4_weigh_70 rfl ?_
            exact wp_loc (L2 := [some (vR a0), some (vI x1), some (vI x2), some (vI x3), some (vI x4), some (vI x5), some (vI x6), none]) ⟨rfl, ⟨rfl, ⟨rfl, ⟨rfl, ⟨rfl, ⟨rfl, ⟨rfl, trivial⟩⟩⟩⟩⟩⟩⟩ (((((h.2 c1).2 c2).2.2 c3).2 c8).2.2 c9)
set_option maxHeartbeats 4000000 in
set_option maxRecDepth 10000 in
theorem sX4_weigh_169 {K : KK} {d : Nat} {V : Mem} {Q : Option AV → Mem → Prop} (a0 : Nat) (x5 : Int) (h0 : IsLaw a0) (h : ((x5 ≤ 0 → Q (some (vI 0)) V) ∧ (¬ (x5 ≤ 0) → (((0 : Int) ≤ (w32 (x5 - 1)) ∧ (w32 (x5 - 1)) < (32 : Nat)) ∧ Q (some (vI (V (a0 + 2) (Int.toNat (w32 (x5 - 1)))))) V)))) : Wf K (d + 1) mX4_weigh 169 [some (vR a0), none, none, none, none, some (vI x5), none, none] [] V Q := by
  refine wp_iload dX4_weigh_169 rfl ?_
  refine wp_if_le (tgt := 186) dX4_weigh_171 rfl (fun c1 => ?_) (fun c1 => ?_)
  ·
    refine wp_iconst dX4_weigh_186 (by decide) ?_
    exact wp_ireturn dX4_weigh_187 rfl ⟨rfl, rfl⟩ ⟨rfl, (h.1 c1)⟩
  ·
    refine wp_aload_n dX4_weigh_174 rfl rfl ?_
    refine wp_getR (b := (a0 + 2)) dX4_weigh_175 fX4_15 rfl h0.1 (by decide) rfl ?_
    refine wp_iload dX4_weigh_178 rfl ?_
    refine wp_iconst dX4_weigh_180 (by decide) ?_
    refine wp_isub dX4_weigh_181 ?_
    refine wp_iald dX4_weigh_182 h0.2.2 (h.2 c1).1 ?_
    refine wp_goto (tgt := 187) dX4_weigh_183 rfl ?_
    exact wp_ireturn dX4_weigh_187 rfl ⟨rfl, rfl⟩ ⟨rfl, (h.2 c1).2⟩
set_option maxHeartbeats 4000000 in
set_option maxRecDepth 10000 in
theorem sX4_weigh_133 {K : KK} {d : Nat} {V : Mem} {Q : Option AV → Mem → Prop} (a0 : Nat) (x1 : Int) (x2 : Int) (x3 : Int) (x4 : Int) (x5 : Int) (x6 : Int) (x7 : Int) (h0 : IsLaw a0) (h : ((32 ≤ x5 → Wf K (d + 1) mX4_weigh 163 [some (vR a0), some (vI x1), some (vI x2), some (vI x3), some (vI x4), some (vI x5), some (vI x6), none] [] V Q) ∧ (¬ (32 ≤ x5) → Mf K d mX4_operand [vI x7, vI x1, vI x2, vI x3, vI x4] V (fun r V2 => ∃ z2, r = some (vI z2) ∧ (((0 : Int) ≤ x5 ∧ x5 < (32 : Nat)) ∧ Wf K (d + 1) mX4_weigh 163 [some (vR a0), some (vI x1), some (vI x2), some (vI x3), some (vI x4), some (vI (w32 (x5 + 1))), some (vI x6), none] [] (upm V2 (a0 + 2) (Int.toNat x5) z2) Q))))) : Wf K (d + 1) mX4_weigh 133 [some (vR a0), some (vI x1), some (vI x2), some (vI x3), some (vI x4), some (vI x5), some (vI x6), some (vI x7)] [] V Q := by
  refine wp_iload dX4_weigh_133 rfl ?_
  refine wp_aload_n dX4_weigh_135 rfl rfl ?_
  refine wp_getR (b := (a0 + 2)) dX4_weigh_136 fX4_15 rfl h0.1 (by decide) rfl ?_
  refine wp_alen dX4_weigh_139 h0.2.2 (by decide) (by decide) ?_
  refine wp_icmp_ge (tgt := 163) dX4_weigh_140 rfl (fun c1 => ?_) (fun c1 => ?_)
  ·
    exact wp_loc (L2 := [some (vR a0), some (vI x1), some (vI x2), some (vI x3), some (vI x4), some (vI x5), some (vI x6), none]) ⟨rfl, ⟨rfl, ⟨rfl, ⟨rfl, ⟨rfl, ⟨rfl, ⟨rfl, trivial⟩⟩⟩⟩⟩⟩⟩ (h.1 c1)
  ·
    refine wp_aload_n dX4_weigh_143 rfl rfl ?_
    refine wp_getR (b := (a0 + 2)) dX4_weigh_144 fX4_15 rfl h0.1 (by decide) rfl ?_
    refine wp_iload dX4_weigh_147 rfl ?_
    refine wp_iload dX4_weigh_149 rfl ?_
    refine wp_iload_n dX4_weigh_151 rfl rfl ?_
    refine wp_iload_n dX4_weigh_152 rfl rfl ?_
    refine wp_iload_n dX4_weigh_153 rfl rfl ?_
    refine wp_iload dX4_weigh_154 rfl ?_
    refine wp_callS (S := [vI x5, vR (a0 + 2)]) (as := [vI x7, vI x1, vI x2, vI x3, vI x4]) dX4_weigh_156 lX4_36 ((h.2 c1)) (by omega) rfl rfl (Nat.le_of_ble_eq_true rfl) ⟨Nat.le_refl _, Nat.le_refl _⟩ ?_
    rintro _ _ V2 ⟨rfl, z2, rfl, q2⟩
    show Wp _ _ _ _ _ 159 _ [vI z2, vI x5, vR (a0 + 2)] _ _ _ _ _
    refine wp_iast dX4_weigh_159 h0.2.2 q2.1 ?_
    refine wp_iinc dX4_weigh_160 rfl rfl ?_
    exact wp_loc (L2 := [some (vR a0), some (vI x1), some (vI x2), some (vI x3), some (vI x4), some (vI (w32 (x5 + 1))), some (vI x6), none]) ⟨rfl, ⟨rfl, ⟨rfl, ⟨rfl, ⟨rfl, ⟨rfl, ⟨rfl, trivial⟩⟩⟩⟩⟩⟩⟩ q2.2
set_option maxHeartbeats 4000000 in
set_option maxRecDepth 10000 in
theorem sX4_weigh_163 {K : KK} {d : Nat} {V : Mem} {Q : Option AV → Mem → Prop} (a0 : Nat) (x1 : Int) (x2 : Int) (x3 : Int) (x4 : Int) (x5 : Int) (x6 : Int) (h0 : IsLaw a0) (h : Wf K (d + 1) mX4_weigh 6 [some (vR a0), some (vI x1), some (vI x2), some (vI x3), some (vI x4), some (vI x5), some (vI (w32 (x6 + 1))), none] [] V Q) : Wf K (d + 1) mX4_weigh 163 [some (vR a0), some (vI x1), some (vI x2), some (vI x3), some (vI x4), some (vI x5), some (vI x6), none] [] V Q := by
  refine wp_iinc dX4_weigh_163 rfl rfl ?_
  refine wp_goto (tgt := 6) dX4_weigh_166 rfl ?_
  exact h
set_option maxHeartbeats 4000000 in
set_option maxRecDepth 10000 in
theorem sX4_weigh_74 {K : KK} {d : Nat} {V : Mem} {Q : Option AV → Mem → Prop} (a0 : Nat) (x1 : Int) (x2 : Int) (x3 : Int) (x4 : Int) (x5 : Int) (x6 : Int) (u0 : Nat) (s1 : Int) (s2 : Int) (h0 : IsLaw a0) (hu0 : SH[u0]? = some (14, 32, [])) (h : (((0 : Int) ≤ s1 ∧ s1 < (32 : Nat)) ∧ Wf K (d + 1) mX4_weigh 163 [some (vR a0), some (vI x1), some (vI x2), some (vI x3), some (vI x4), some (vI x5), some (vI x6), none] [] (upm V u0 (Int.toNat s1) s2) Q)) : Wf K (d + 1) mX4_weigh 74 [some (vR a0), some (vI x1), some (vI x2), some (vI x3), some (vI x4), some (vI x5), some (vI x6), none] [vI s2, vI s1, vR u0] V Q := by
  refine wp_iast dX4_weigh_74 hu0 h.1 ?_
  refine wp_goto (tgt := 163) dX4_weigh_75 rfl ?_
  exact h.2
set_option maxHeartbeats 4000000 in
set_option maxRecDepth 10000 in
theorem sX4_operand {K : KK} {d : Nat} {V : Mem} {Q : Option AV → Mem → Prop} (x0 : Int) (x1 : Int) (x2 : Int) (x3 : Int) (x4 : Int) (h : ((x0 = 143 → Q (some (vI x1)) V) ∧ (x0 = 144 → Q (some (vI x2)) V) ∧ (x0 = 145 → Q (some (vI x3)) V) ∧ (x0 = 146 → Q (some (vI x4)) V) ∧ ((x0 < 143 ∨ 146 < x0) → Q (some (vI (w32 (- x0)))) V))) : Mf K d mX4_operand [vI x0, vI x1, vI x2, vI x3, vI x4] V Q := by
  refine Mt.of2 (L := [some (vI x0), some (vI x1), some (vI x2), some (vI x3), some (vI x4)]) pnX4 rfl rfl ?_
  refine wp_iload_n dX4_operand_0 rfl rfl ?_
  refine tswS 143 146 x0 (fun o1 => ?_) (fun l1 u1 => ?_)
  ·
    refine wp_tswOut (tgt := 41) dX4_operand_1 o1 rfl ?_
    refine wp_iload_n dX4_operand_41 rfl rfl ?_
    refine wp_ineg dX4_operand_42 ?_
    exact wp_ireturn dX4_operand_43 rfl ⟨rfl, rfl⟩ ⟨rfl, ((h.2.2.2.2) o1)⟩
  ·
    rcases (show x0 = 143 ∨ x0 = 144 ∨ x0 = 145 ∨ x0 = 146 by omega) with e1 | e1 | e1 | e1
    ·
      refine wp_tswIn (tgt := 32) dX4_operand_1 l1 u1 (by rw [e1] <;> rfl) rfl ?_
      refine wp_iload_n dX4_operand_32 rfl rfl ?_
      exact wp_ireturn dX4_operand_33 rfl ⟨rfl, rfl⟩ ⟨rfl, ((h.1) e1)⟩
    ·
      refine wp_tswIn (tgt := 34) dX4_operand_1 l1 u1 (by rw [e1] <;> rfl) rfl ?_
      refine wp_iload_n dX4_operand_34 rfl rfl ?_
      exact wp_ireturn dX4_operand_35 rfl ⟨rfl, rfl⟩ ⟨rfl, ((h.2.1) e1)⟩
    ·
      refine wp_tswIn (tgt := 36) dX4_operand_1 l1 u1 (by rw [e1] <;> rfl) rfl ?_
      refine wp_iload_n dX4_operand_36 rfl rfl ?_
      exact wp_ireturn dX4_operand_37 rfl ⟨rfl, rfl⟩ ⟨rfl, ((h.2.2.1) e1)⟩
    ·
      refine wp_tswIn (tgt := 38) dX4_operand_1 l1 u1 (by rw [e1] <;> rfl) rfl ?_
      refine wp_iload dX4_operand_38 rfl ?_
      exact wp_ireturn dX4_operand_40 rfl ⟨rfl, rfl⟩ ⟨rfl, ((h.2.2.2.1) e1)⟩
set_option maxHeartbeats 4000000 in
set_option maxRecDepth 10000 in
theorem sX4_result {K : KK} {d : Nat} {V : Mem} {Q : Option AV → Mem → Prop} (x0 : Int) (x1 : Int) (x2 : Int) (h : ((x0 = 43 → Q (some (vI (w32 (x1 + x2)))) V) ∧ (x0 = 45 → Q (some (vI (w32 (x1 - x2)))) V) ∧ (x0 = 60 → ((x2 ≤ x1 → Q (some (vI 0)) V) ∧ (¬ (x2 ≤ x1) → Q (some (vI 1)) V))) ∧ (x0 = 61 → ((¬ x1 = x2 → Q (some (vI 0)) V) ∧ (x1 = x2 → Q (some (vI 1)) V))) ∧ (x0 = 141 → ((x1 = 0 → Q (some (vI 0)) V) ∧ (¬ (x1 = 0) → ((x2 = 0 → Q (some (vI 0)) V) ∧ (¬ (x2 = 0) → Q (some (vI 1)) V))))) ∧ (x0 = 142 → ((¬ x1 = 0 → Q (some (vI 1)) V) ∧ (x1 = 0 → ((x2 = 0 → Q (some (vI 0)) V) ∧ (¬ (x2 = 0) → Q (some (vI 1)) V))))) ∧ ((¬ x0 = 43 ∧ ¬ x0 = 45 ∧ ¬ x0 = 60 ∧ ¬ x0 = 61 ∧ ¬ x0 = 141 ∧ ¬ x0 = 142) → Q (some (vI (w32 (x1 * x2)))) V))) : Mf K d mX4_result [vI x0, vI x1, vI x2] V Q := by
  refine Mt.of2 (L := [some (vI x0), some (vI x1), some (vI x2)]) pnX4 rfl rfl ?_
  refine wp_iload_n dX4_result_0 rfl rfl ?_
  by_cases e7_0 : x0 = 43
  ·
    refine wp_lsw (tgt := 110) dX4_result_1 (by decide) (by rw [e7_0] <;> rfl) rfl ?_
    refine wp_iload_n dX4_result_110 rfl rfl ?_
    refine wp_iload_n dX4_result_111 rfl rfl ?_
    refine wp_iadd dX4_result_112 ?_
    exact wp_ireturn dX4_result_113 rfl ⟨rfl, rfl⟩ ⟨rfl, ((h.1) e7_0)⟩
  by_cases e7_1 : x0 = 45
  ·
    refine wp_lsw (tgt := 114) dX4_result_1 (by decide) (by rw [e7_1] <;> rfl) rfl ?_
    refine wp_iload_n dX4_result_114 rfl rfl ?_
    refine wp_iload_n dX4_result_115 rfl rfl ?_
    refine wp_isub dX4_result_116 ?_
    exact wp_ireturn dX4_result_117 rfl ⟨rfl, rfl⟩ ⟨rfl, ((h.2.1) e7_1)⟩
  by_cases e7_2 : x0 = 60
  ·
    refine wp_lsw (tgt := 88) dX4_result_1 (by decide) (by rw [e7_2] <;> rfl) rfl ?_
    refine wp_iload_n dX4_result_88 rfl rfl ?_
    refine wp_iload_n dX4_result_89 rfl rfl ?_
    refine wp_icmp_ge (tgt := 97) dX4_result_90 rfl (fun c1 => ?_) (fun c1 => ?_)
    ·
      refine wp_iconst dX4_result_97 (by decide) ?_
      exact wp_ireturn dX4_result_98 rfl ⟨rfl, rfl⟩ ⟨rfl, (((h.2.2.1) e7_2).1 c1)⟩
    ·
      refine wp_iconst dX4_result_93 (by decide) ?_
      refine wp_goto (tgt := 98) dX4_result_94 rfl ?_
      exact wp_ireturn dX4_result_98 rfl ⟨rfl, rfl⟩ ⟨rfl, (((h.2.2.1) e7_2).2 c1)⟩
  by_cases e7_3 : x0 = 61
  ·
    refine wp_lsw (tgt := 99) dX4_result_1 (by decide) (by rw [e7_3] <;> rfl) rfl ?_
    refine wp_iload_n dX4_result_99 rfl rfl ?_
    refine wp_iload_n dX4_result_100 rfl rfl ?_
    refine wp_icmp_ne (tgt := 108) dX4_result_101 rfl (fun c2 => ?_) (fun c2 => ?_)
    ·
      refine wp_iconst dX4_result_108 (by decide) ?_
      exact wp_ireturn dX4_result_109 rfl ⟨rfl, rfl⟩ ⟨rfl, (((h.2.2.2.1) e7_3).1 c2)⟩
    ·
      refine wp_iconst dX4_result_104 (by decide) ?_
      refine wp_goto (tgt := 109) dX4_result_105 rfl ?_
      exact wp_ireturn dX4_result_109 rfl ⟨rfl, rfl⟩ ⟨rfl, (((h.2.2.2.1) e7_3).2 c2)⟩
  by_cases e7_4 : x0 = 141
  ·
    refine wp_lsw (tgt := 60) dX4_result_1 (by decide) (by rw [e7_4] <;> rfl) rfl ?_
    refine wp_iload_n dX4_result_60 rfl rfl ?_
    refine wp_if_eq (tgt := 72) dX4_result_61 rfl (fun c3 => ?_) (fun c3 => ?_)
    ·
      refine wp_iconst dX4_result_72 (by decide) ?_
      exact wp_ireturn dX4_result_73 rfl ⟨rfl, rfl⟩ ⟨rfl, (((h.2.2.2.2.1) e7_4).1 c3)⟩
    ·
      refine wp_iload_n dX4_result_64 rfl rfl ?_
      refine wp_if_eq (tgt := 72) dX4_result_65 rfl (fun c4 => ?_) (fun c4 => ?_)
      ·
        refine wp_iconst dX4_result_72 (by decide) ?_
        exact wp_ireturn dX4_result_73 rfl ⟨rfl, rfl⟩ ⟨rfl, ((((h.2.2.2.2.1) e7_4).2 c3).1 c4)⟩
      ·
        refine wp_iconst dX4_result_68 (by decide) ?_
        refine wp_goto (tgt := 73) dX4_result_69 rfl ?_
        exact wp_ireturn dX4_result_73 rfl ⟨rfl, rfl⟩ ⟨rfl, ((((h.2.2.2.2.1) e7_4).2 c3).2 c4)⟩
  by_cases e7_5 : x0 = 142
  ·
    refine wp_lsw (tgt := 74) dX4_result_1 (by decide) (by rw [e7_5] <;> rfl) rfl ?_
    refine wp_iload_n dX4_result_74 rfl rfl ?_
    refine wp_if_ne (tgt := 82) dX4_result_75 rfl (fun c5 => ?_) (fun c5 => ?_)
    ·
      refine wp_iconst dX4_result_82 (by decide) ?_
      refine wp_goto (tgt := 87) dX4_result_83 rfl ?_
      exact wp_ireturn dX4_result_87 rfl ⟨rfl, rfl⟩ ⟨rfl, (((h.2.2.2.2.2.1) e7_5).1 c5)⟩
    ·
      refine wp_iload_n dX4_result_78 rfl rfl ?_
      refine wp_if_eq (tgt := 86) dX4_result_79 rfl (fun c6 => ?_) (fun c6 => ?_)
      ·
        refine wp_iconst dX4_result_86 (by decide) ?_
        exact wp_ireturn dX4_result_87 rfl ⟨rfl, rfl⟩ ⟨rfl, ((((h.2.2.2.2.2.1) e7_5).2 c5).1 c6)⟩
      ·
        refine wp_iconst dX4_result_82 (by decide) ?_
        refine wp_goto (tgt := 87) dX4_result_83 rfl ?_
        exact wp_ireturn dX4_result_87 rfl ⟨rfl, rfl⟩ ⟨rfl, ((((h.2.2.2.2.2.1) e7_5).2 c5).2 c6)⟩
  refine wp_lsw (off := 117) (tgt := 118) dX4_result_1 (by decide) (by simp [Op.lookupswitch.offset, Ne.symm e7_0, Ne.symm e7_1, Ne.symm e7_2, Ne.symm e7_3, Ne.symm e7_4, Ne.symm e7_5, e7_0, e7_1, e7_2, e7_3, e7_4, e7_5]) rfl ?_
  refine wp_iload_n dX4_result_118 rfl rfl ?_
  refine wp_iload_n dX4_result_119 rfl rfl ?_
  refine wp_imul dX4_result_120 ?_
  exact wp_ireturn dX4_result_121 rfl ⟨rfl, rfl⟩ ⟨rfl, ((h.2.2.2.2.2.2) ⟨e7_0, e7_1, e7_2, e7_3, e7_4, e7_5⟩)⟩
set_option maxHeartbeats 4000000 in
set_option maxRecDepth 10000 in
theorem sX7_clear {K : KK} {d : Nat} {V : Mem} {Q : Option AV → Mem → Prop} (a0 : Nat) (h0 : IsStore a0) (h : Q none (upm (upm (upm V a0 5 0) a0 6 0) a0 7 0)) : Mf K d mX7_clear [vR a0] V Q := by
  refine Mt.of2 (L := [some (vR a0)]) pnX7 rfl rfl ?_
  refine wp_aload_n dX7_clear_0 rfl rfl ?_
  refine wp_iconst dX7_clear_1 (by decide) ?_
  refine wp_putI dX7_clear_2 fwX7_36 rfl h0.1 (by decide) ?_
  refine wp_aload_n dX7_clear_5 rfl rfl ?_
  refine wp_iconst dX7_clear_6 (by decide) ?_
  refine wp_putI dX7_clear_7 fwX7_40 rfl h0.1 (by decide) ?_
  refine wp_aload_n dX7_clear_10 rfl rfl ?_
  refine wp_iconst dX7_clear_11 (by decide) ?_
  refine wp_putI dX7_clear_12 fwX7_43 rfl h0.1 (by decide) ?_
  exact wp_return dX7_clear_15 rfl ⟨rfl, rfl⟩ ⟨rfl, h⟩
set_option maxHeartbeats 4000000 in
set_option maxRecDepth 10000 in
theorem sX7_copyFrom {K : KK} {d : Nat} {V : Mem} {Q : Option AV → Mem → Prop} (a0 : Nat) (a1 : Nat) (h0 : IsStore a0) (h1 : IsStore a1) (h : Wf K (d + 2) mX7_copyFrom 2 [some (vR a0), some (vR a1), some (vI 0)] [] V Q) : Mf K (d + 2) mX7_copyFrom [vR a0, vR a1] V Q := by
  refine Mt.of2 (L := [some (vR a0), some (vR a1), none]) pnX7 rfl rfl ?_
  refine wp_iconst dX7_copyFrom_0 (by decide) ?_
  refine wp_istore_n dX7_copyFrom_1 rfl (by decide) rfl ?_
  exact h
set_option maxHeartbeats 4000000 in
set_option maxRecDepth 10000 in
theorem sX7_copyFrom_2 {K : KK} {d : Nat} {V : Mem} {Q : Option AV → Mem → Prop} (a0 : Nat) (a1 : Nat) (x2 : Int) (h0 : IsStore a0) (h1 : IsStore a1) (hE : kE K = false) (h : (((V a1 5) ≤ x2 → Wf K (d + 2) mX7_copyFrom 33 [some (vR a0), some (vR a1), some (vI 0)] [] V Q) ∧ (¬ ((V a1 5) ≤ x2) → (((0 : Int) ≤ x2 ∧ x2 < (4 : Nat)) ∧ (((0 : Int) ≤ x2 ∧ x2 < (4 : Nat)) ∧ Wf K (d + 2) mX7_copyFrom 2 [some (vR a0), some (vR a1), some (vI (w32 (x2 + 1)))] [] (upm (upm (upm (cpm V ((a1 + 6 + 2 * Int.toNat x2) + 1) (Int.toNat 0) ((a0 + 6 + 2 * Int.toNat x2) + 1) (Int.toNat 0) (Int.toNat 20)) (a0 + 6 + 2 * Int.toNat x2) 1 ((cpm V ((a1 + 6 + 2 * Int.toNat x2) + 1) (Int.toNat 0) ((a0 + 6 + 2 * Int.toNat x2) + 1) (Int.toNat 0) (Int.toNat 20)) (a1 + 6 + 2 * Int.toNat x2) 1)) (a0 + 6 + 2 * Int.toNat x2) 2 ((upm (cpm V ((a1 + 6 + 2 * Int.toNat x2) + 1) (Int.toNat 0) ((a0 + 6 + 2 * Int.toNat x2) + 1) (Int.toNat 0) (Int.toNat 20)) (a0 + 6 + 2 * Int.toNat x2) 1 ((cpm V ((a1 + 6 + 2 * Int.toNat x2) + 1) (Int.toNat 0) ((a0 + 6 + 2 * Int.toNat x2) + 1) (Int.toNat 0) (Int.toNat 20)) (a1 + 6 + 2 * Int.toNat x2) 1)) (a1 + 6 + 2 * Int.toNat x2) 2)) (a0 + 6 + 2 * Int.toNat x2) 3 ((upm (upm (cpm V ((a1 + 6 + 2 * Int.toNat x2) + 1) (Int.toNat 0) ((a0 + 6 + 2 * Int.toNat x2) + 1) (Int.toNat 0) (Int.toNat 20)) (a0 + 6 + 2 * Int.toNat x2) 1 ((cpm V ((a1 + 6 + 2 * Int.toNat x2) + 1) (Int.toNat 0) ((a0 + 6 + 2 * Int.toNat x2) + 1) (Int.toNat 0) (Int.toNat 20)) (a1 + 6 + 2 * Int.toNat x2) 1)) (a0 + 6 + 2 * Int.toNat x2) 2 ((upm (cpm V ((a1 + 6 + 2 * Int.toNat x2) + 1) (Int.toNat 0) ((a0 + 6 + 2 * Int.toNat x2) + 1) (Int.toNat 0) (Int.toNat 20)) (a0 + 6 + 2 * Int.toNat x2) 1 ((cpm V ((a1 + 6 + 2 * Int.toNat x2) + 1) (Int.toNat 0) ((a0 + 6 + 2 * Int.toNat x2) + 1) (Int.toNat 0) (Int.toNat 20)) (a1 + 6 + 2 * Int.toNat x2) 1)) (a1 + 6 + 2 * Int.toNat x2) 2)) (a1 + 6 + 2 * Int.toNat x2) 3)) Q))))) : Wf K (d + 2) mX7_copyFrom 2 [some (vR a0), some (vR a1), some (vI x2)] [] V Q := by
  refine wp_iload_n dX7_copyFrom_2 rfl rfl ?_
  refine wp_aload_n dX7_copyFrom_3 rfl rfl ?_
  refine wp_getI dX7_copyFrom_4 fX7_36 rfl h1.1 (by decide) ?_
  refine wp_icmp_ge (tgt := 31) dX7_copyFrom_7 rfl (fun c1 => ?_) (fun c1 => ?_)
  ·
    refine wp_iconst dX7_copyFrom_31 (by decide) ?_
    refine wp_istore_n dX7_copyFrom_32 rfl (by decide) rfl ?_
    exact (h.1 c1)
  ·
    refine wp_aload_n dX7_copyFrom_10 rfl rfl ?_
    refine wp_getR (b := (a0 + 1)) dX7_copyFrom_11 fX7_11 rfl h0.1 (by decide) rfl ?_
    refine wp_iload_n dX7_copyFrom_14 rfl rfl ?_
    have g2 : (0 : Int) ≤ x2 ∧ x2 < (4 : Nat) := (h.2 c1).1
    refine wp_aald (b := (a0 + 6 + 2 * Int.toNat x2)) dX7_copyFrom_15 h0.2.1 (by decide) g2 (ap_get (b := a0 + 6) (s := 2) (n := 4) g2) ?_
    refine wp_aload_n dX7_copyFrom_16 rfl rfl ?_
    refine wp_getR (b := (a1 + 1)) dX7_copyFrom_17 fX7_11 rfl h1.1 (by decide) rfl ?_
    refine wp_iload_n dX7_copyFrom_20 rfl rfl ?_
    have g3 : (0 : Int) ≤ x2 ∧ x2 < (4 : Nat) := (h.2 c1).2.1
    refine wp_aald (b := (a1 + 6 + 2 * Int.toNat x2)) dX7_copyFrom_21 h1.2.1 (by decide) g3 (ap_get (b := a1 + 6) (s := 2) (n := 4) g3) ?_
    refine wp_inlV (d' := (d + 1)) (S := []) (as := [vR (a1 + 6 + 2 * Int.toNat x2)]) dX7_copyFrom_22 lX7_46 (by omega) (IsStore.row h0 g2).1 rfl rfl (Nat.le_of_ble_eq_true rfl) ⟨Nat.le_refl _, Nat.le_refl _⟩ (Mt.of2 (L := [some (vR (a0 + 6 + 2 * Int.toNat x2)), some (vR (a1 + 6 + 2 * Int.toNat x2))]) pnX6 rfl rfl ?_)
    refine wp_aload_n dX6_copyFrom_0 rfl rfl ?_
    refine wp_getR (b := ((a1 + 6 + 2 * Int.toNat x2) + 1)) dX6_copyFrom_1 fX6_9 rfl (IsStore.row h1 g3).1 (by decide) rfl ?_
    refine wp_iconst dX6_copyFrom_4 (by decide) ?_
    refine wp_aload_n dX6_copyFrom_5 rfl rfl ?_
    refine wp_getR (b := ((a0 + 6 + 2 * Int.toNat x2) + 1)) dX6_copyFrom_6 fX6_9 rfl (IsStore.row h0 g2).1 (by decide) rfl ?_
    refine wp_iconst dX6_copyFrom_9 (by decide) ?_
    refine wp_aload_n dX6_copyFrom_10 rfl rfl ?_
    refine wp_getR (b := ((a0 + 6 + 2 * Int.toNat x2) + 1)) dX6_copyFrom_11 fX6_9 rfl (IsStore.row h0 g2).1 (by decide) rfl ?_
    refine wp_alen dX6_copyFrom_14 (IsStore.row h0 g2).2 (by decide) (by decide) ?_
    refine wp_copy dX6_copyFrom_15 lX6_19 hE (by omega) (Nat.le_of_ble_eq_true rfl) (IsStore.row h1 g3).2 (IsStore.row h0 g2).2 (by decide) ?_
    refine wp_aload_n dX6_copyFrom_18 rfl rfl ?_
    refine wp_aload_n dX6_copyFrom_19 rfl rfl ?_
    refine wp_getJ dX6_copyFrom_20 fX6_25 rfl (IsStore.row h1 g3).1 (by decide) ?_
    refine wp_putJ dX6_copyFrom_23 fwX6_25 rfl (IsStore.row h0 g2).1 (by decide) ?_
    refine wp_aload_n dX6_copyFrom_26 rfl rfl ?_
    refine wp_aload_n dX6_copyFrom_27 rfl rfl ?_
    refine wp_getI dX6_copyFrom_28 fX6_29 rfl (IsStore.row h1 g3).1 (by decide) ?_
    refine wp_putI dX6_copyFrom_31 fwX6_29 rfl (IsStore.row h0 g2).1 (by decide) ?_
    refine wp_aload_n dX6_copyFrom_34 rfl rfl ?_
    refine wp_aload_n dX6_copyFrom_35 rfl rfl ?_
    refine wp_getI dX6_copyFrom_36 fX6_15 rfl (IsStore.row h1 g3).1 (by decide) ?_
    refine wp_putI dX6_copyFrom_39 fwX6_15 rfl (IsStore.row h0 g2).1 (by decide) ?_
    refine wp_return dX6_copyFrom_42 rfl ⟨rfl, rfl⟩ ?_
    show Wp _ _ _ _ _ 25 _ [] _ _ _ _ _
    refine wp_iinc dX7_copyFrom_25 rfl rfl ?_
    refine wp_goto (tgt := 2) dX7_copyFrom_28 rfl ?_
    exact (h.2 c1).2.2
set_option maxHeartbeats 4000000 in
set_option maxRecDepth 10000 in
theorem sX7_copyFrom_33 {K : KK} {d : Nat} {V : Mem} {Q : Option AV → Mem → Prop} (a0 : Nat) (a1 : Nat) (x2 : Int) (h0 : IsStore a0) (h1 : IsStore a1) (hE : kE K = false) (h : (((V a1 6) ≤ x2 → Wf K (d + 2) mX7_copyFrom 64 [some (vR a0), some (vR a1), some (vI 0)] [] V Q) ∧ (¬ ((V a1 6) ≤ x2) → (((0 : Int) ≤ x2 ∧ x2 < (8 : Nat)) ∧ (((0 : Int) ≤ x2 ∧ x2 < (8 : Nat)) ∧ Wf K (d + 2) mX7_copyFrom 33 [some (vR a0), some (vR a1), some (vI (w32 (x2 + 1)))] [] (upm (upm (upm (cpm V ((a1 + 14 + 2 * Int.toNat x2) + 1) (Int.toNat 0) ((a0 + 14 + 2 * Int.toNat x2) + 1) (Int.toNat 0) (Int.toNat 10)) (a0 + 14 + 2 * Int.toNat x2) 1 ((cpm V ((a1 + 14 + 2 * Int.toNat x2) + 1) (Int.toNat 0) ((a0 + 14 + 2 * Int.toNat x2) + 1) (Int.toNat 0) (Int.toNat 10)) (a1 + 14 + 2 * Int.toNat x2) 1)) (a0 + 14 + 2 * Int.toNat x2) 2 ((upm (cpm V ((a1 + 14 + 2 * Int.toNat x2) + 1) (Int.toNat 0) ((a0 + 14 + 2 * Int.toNat x2) + 1) (Int.toNat 0) (Int.toNat 10)) (a0 + 14 + 2 * Int.toNat x2) 1 ((cpm V ((a1 + 14 + 2 * Int.toNat x2) + 1) (Int.toNat 0) ((a0 + 14 + 2 * Int.toNat x2) + 1) (Int.toNat 0) (Int.toNat 10)) (a1 + 14 + 2 * Int.toNat x2) 1)) (a1 + 14 + 2 * Int.toNat x2) 2)) (a0 + 14 + 2 * Int.toNat x2) 3 ((upm (upm (cpm V ((a1 + 14 + 2 * Int.toNat x2) + 1) (Int.toNat 0) ((a0 + 14 + 2 * Int.toNat x2) + 1) (Int.toNat 0) (Int.toNat 10)) (a0 + 14 + 2 * Int.toNat x2) 1 ((cpm V ((a1 + 14 + 2 * Int.toNat x2) + 1) (Int.toNat 0) ((a0 + 14 + 2 * Int.toNat x2) + 1) (Int.toNat 0) (Int.toNat 10)) (a1 + 14 + 2 * Int.toNat x2) 1)) (a0 + 14 + 2 * Int.toNat x2) 2 ((upm (cpm V ((a1 + 14 + 2 * Int.toNat x2) + 1) (Int.toNat 0) ((a0 + 14 + 2 * Int.toNat x2) + 1) (Int.toNat 0) (Int.toNat 10)) (a0 + 14 + 2 * Int.toNat x2) 1 ((cpm V ((a1 + 14 + 2 * Int.toNat x2) + 1) (Int.toNat 0) ((a0 + 14 + 2 * Int.toNat x2) + 1) (Int.toNat 0) (Int.toNat 10)) (a1 + 14 + 2 * Int.toNat x2) 1)) (a1 + 14 + 2 * Int.toNat x2) 2)) (a1 + 14 + 2 * Int.toNat x2) 3)) Q))))) : Wf K (d + 2) mX7_copyFrom 33 [some (vR a0), some (vR a1), some (vI x2)] [] V Q := by
  refine wp_iload_n dX7_copyFrom_33 rfl rfl ?_
  refine wp_aload_n dX7_copyFrom_34 rfl rfl ?_
  refine wp_getI dX7_copyFrom_35 fX7_40 rfl h1.1 (by decide) ?_
  refine wp_icmp_ge (tgt := 62) dX7_copyFrom_38 rfl (fun c1 => ?_) (fun c1 => ?_)
  ·
    refine wp_iconst dX7_copyFrom_62 (by decide) ?_
    refine wp_istore_n dX7_copyFrom_63 rfl (by decide) rfl ?_
    exact (h.1 c1)
  ·
    refine wp_aload_n dX7_copyFrom_41 rfl rfl ?_
    refine wp_getR (b := (a0 + 2)) dX7_copyFrom_42 fX7_19 rfl h0.1 (by decide) rfl ?_
    refine wp_iload_n dX7_copyFrom_45 rfl rfl ?_
    have g2 : (0 : Int) ≤ x2 ∧ x2 < (8 : Nat) := (h.2 c1).1
    refine wp_aald (b := (a0 + 14 + 2 * Int.toNat x2)) dX7_copyFrom_46 h0.2.2.1 (by decide) g2 (ap_get (b := a0 + 14) (s := 2) (n := 8) g2) ?_
    refine wp_aload_n dX7_copyFrom_47 rfl rfl ?_
    refine wp_getR (b := (a1 + 2)) dX7_copyFrom_48 fX7_19 rfl h1.1 (by decide) rfl ?_
    refine wp_iload_n dX7_copyFrom_51 rfl rfl ?_
    have g3 : (0 : Int) ≤ x2 ∧ x2 < (8 : Nat) := (h.2 c1).2.1
    refine wp_aald (b := (a1 + 14 + 2 * Int.toNat x2)) dX7_copyFrom_52 h1.2.2.1 (by decide) g3 (ap_get (b := a1 + 14) (s := 2) (n := 8) g3) ?_
    refine wp_inlV (d' := (d + 1)) (S := []) (as := [vR (a1 + 14 + 2 * Int.toNat x2)]) dX7_copyFrom_53 lX7_50 (by omega) (IsStore.braid h0 g2).1 rfl rfl (Nat.le_of_ble_eq_true rfl) ⟨Nat.le_refl _, Nat.le_refl _⟩ (Mt.of2 (L := [some (vR (a0 + 14 + 2 * Int.toNat x2)), some (vR (a1 + 14 + 2 * Int.toNat x2))]) pnX0 rfl rfl ?_)
    refine wp_aload_n dX0_copyFrom_0 rfl rfl ?_
    refine wp_getR (b := ((a1 + 14 + 2 * Int.toNat x2) + 1)) dX0_copyFrom_1 fX0_9 rfl (IsStore.braid h1 g3).1 (by decide) rfl ?_
    refine wp_iconst dX0_copyFrom_4 (by decide) ?_
    refine wp_aload_n dX0_copyFrom_5 rfl rfl ?_
    refine wp_getR (b := ((a0 + 14 + 2 * Int.toNat x2) + 1)) dX0_copyFrom_6 fX0_9 rfl (IsStore.braid h0 g2).1 (by decide) rfl ?_
    refine wp_iconst dX0_copyFrom_9 (by decide) ?_
    refine wp_aload_n dX0_copyFrom_10 rfl rfl ?_
    refine wp_getR (b := ((a0 + 14 + 2 * Int.toNat x2) + 1)) dX0_copyFrom_11 fX0_9 rfl (IsStore.braid h0 g2).1 (by decide) rfl ?_
    refine wp_alen dX0_copyFrom_14 (IsStore.braid h0 g2).2 (by decide) (by decide) ?_
    refine wp_copy dX0_copyFrom_15 lX0_33 hE (by omega) (Nat.le_of_ble_eq_true rfl) (IsStore.braid h1 g3).2 (IsStore.braid h0 g2).2 (by decide) ?_
    refine wp_aload_n dX0_copyFrom_18 rfl rfl ?_
    refine wp_aload_n dX0_copyFrom_19 rfl rfl ?_
    refine wp_getJ dX0_copyFrom_20 fX0_39 rfl (IsStore.braid h1 g3).1 (by decide) ?_
    refine wp_putJ dX0_copyFrom_23 fwX0_39 rfl (IsStore.braid h0 g2).1 (by decide) ?_
    refine wp_aload_n dX0_copyFrom_26 rfl rfl ?_
    refine wp_aload_n dX0_copyFrom_27 rfl rfl ?_
    refine wp_getI dX0_copyFrom_28 fX0_15 rfl (IsStore.braid h1 g3).1 (by decide) ?_
    refine wp_putI dX0_copyFrom_31 fwX0_15 rfl (IsStore.braid h0 g2).1 (by decide) ?_
    refine wp_aload_n dX0_copyFrom_34 rfl rfl ?_
    refine wp_aload_n dX0_copyFrom_35 rfl rfl ?_
    refine wp_getI dX0_copyFrom_36 fX0_43 rfl (IsStore.braid h1 g3).1 (by decide) ?_
    refine wp_putI dX0_copyFrom_39 fwX0_43 rfl (IsStore.braid h0 g2).1 (by decide) ?_
    refine wp_return dX0_copyFrom_42 rfl ⟨rfl, rfl⟩ ?_
    show Wp _ _ _ _ _ 56 _ [] _ _ _ _ _
    refine wp_iinc dX7_copyFrom_56 rfl rfl ?_
    refine wp_goto (tgt := 33) dX7_copyFrom_59 rfl ?_
    exact (h.2 c1).2.2
set_option maxHeartbeats 4000000 in
set_option maxRecDepth 10000 in
theorem sX7_copyFrom_64 {K : KK} {d : Nat} {V : Mem} {Q : Option AV → Mem → Prop} (a0 : Nat) (a1 : Nat) (x2 : Int) (h0 : IsStore a0) (h1 : IsStore a1) (h : (((V a1 7) ≤ x2 → Q none (upm (upm (upm V a0 5 (V a1 5)) a0 6 ((upm V a0 5 (V a1 5)) a1 6)) a0 7 ((upm (upm V a0 5 (V a1 5)) a0 6 ((upm V a0 5 (V a1 5)) a1 6)) a1 7))) ∧ (¬ ((V a1 7) ≤ x2) → (((0 : Int) ≤ x2 ∧ x2 < (8 : Nat)) ∧ (((0 : Int) ≤ x2 ∧ x2 < (8 : Nat)) ∧ (((0 : Int) ≤ x2 ∧ x2 < (8 : Nat)) ∧ (((0 : Int) ≤ x2 ∧ x2 < (8 : Nat)) ∧ (((0 : Int) ≤ x2 ∧ x2 < (8 : Nat)) ∧ (((0 : Int) ≤ x2 ∧ x2 < (8 : Nat)) ∧ (((upm (upm V (a0 + 3) (Int.toNat x2) (V (a1 + 3) (Int.toNat x2))) (a0 + 4) (Int.toNat x2) ((upm V (a0 + 3) (Int.toNat x2) (V (a1 + 3) (Int.toNat x2))) (a1 + 4) (Int.toNat x2))) (a1 + 5) (Int.toNat x2)) = 0 ∨ ((upm (upm V (a0 + 3) (Int.toNat x2) (V (a1 + 3) (Int.toNat x2))) (a0 + 4) (Int.toNat x2) ((upm V (a0 + 3) (Int.toNat x2) (V (a1 + 3) (Int.toNat x2))) (a1 + 4) (Int.toNat x2))) (a1 + 5) (Int.toNat x2)) = 1) ∧ Wf K (d + 2) mX7_copyFrom 64 [some (vR a0), some (vR a1), some (vI (w32 (x2 + 1)))] [] (upm (upm (upm V (a0 + 3) (Int.toNat x2) (V (a1 + 3) (Int.toNat x2))) (a0 + 4) (Int.toNat x2) ((upm V (a0 + 3) (Int.toNat x2) (V (a1 + 3) (Int.toNat x2))) (a1 + 4) (Int.toNat x2))) (a0 + 5) (Int.toNat x2) ((upm (upm V (a0 + 3) (Int.toNat x2) (V (a1 + 3) (Int.toNat x2))) (a0 + 4) (Int.toNat x2) ((upm V (a0 + 3) (Int.toNat x2) (V (a1 + 3) (Int.toNat x2))) (a1 + 4) (Int.toNat x2))) (a1 + 5) (Int.toNat x2))) Q))))))))) : Wf K (d + 2) mX7_copyFrom 64 [some (vR a0), some (vR a1), some (vI x2)] [] V Q := by
  refine wp_iload_n dX7_copyFrom_64 rfl rfl ?_
  refine wp_aload_n dX7_copyFrom_65 rfl rfl ?_
  refine wp_getI dX7_copyFrom_66 fX7_43 rfl h1.1 (by decide) ?_
  refine wp_icmp_ge (tgt := 114) dX7_copyFrom_69 rfl (fun c1 => ?_) (fun c1 => ?_)
  ·
    refine wp_aload_n dX7_copyFrom_114 rfl rfl ?_
    refine wp_aload_n dX7_copyFrom_115 rfl rfl ?_
    refine wp_getI dX7_copyFrom_116 fX7_36 rfl h1.1 (by decide) ?_
    refine wp_putI dX7_copyFrom_119 fwX7_36 rfl h0.1 (by decide) ?_
    refine wp_aload_n dX7_copyFrom_122 rfl rfl ?_
    refine wp_aload_n dX7_copyFrom_123 rfl rfl ?_
    refine wp_getI dX7_copyFrom_124 fX7_40 rfl h1.1 (by decide) ?_
    refine wp_putI dX7_copyFrom_127 fwX7_40 rfl h0.1 (by decide) ?_
    refine wp_aload_n dX7_copyFrom_130 rfl rfl ?_
    refine wp_aload_n dX7_copyFrom_131 rfl rfl ?_
    refine wp_getI dX7_copyFrom_132 fX7_43 rfl h1.1 (by decide) ?_
    refine wp_putI dX7_copyFrom_135 fwX7_43 rfl h0.1 (by decide) ?_
    exact wp_return dX7_copyFrom_138 rfl ⟨rfl, rfl⟩ ⟨rfl, (h.1 c1)⟩
  ·
    refine wp_aload_n dX7_copyFrom_72 rfl rfl ?_
    refine wp_getR (b := (a0 + 3)) dX7_copyFrom_73 fX7_23 rfl h0.1 (by decide) rfl ?_
    refine wp_iload_n dX7_copyFrom_76 rfl rfl ?_
    refine wp_aload_n dX7_copyFrom_77 rfl rfl ?_
    refine wp_getR (b := (a1 + 3)) dX7_copyFrom_78 fX7_23 rfl h1.1 (by decide) rfl ?_
    refine wp_iload_n dX7_copyFrom_81 rfl rfl ?_
    refine wp_iald dX7_copyFrom_82 h1.2.2.2.1 (h.2 c1).1 ?_
    refine wp_iast dX7_copyFrom_83 h0.2.2.2.1 (h.2 c1).2.1 ?_
    refine wp_aload_n dX7_copyFrom_84 rfl rfl ?_
    refine wp_getR (b := (a0 + 4)) dX7_copyFrom_85 fX7_27 rfl h0.1 (by decide) rfl ?_
    refine wp_iload_n dX7_copyFrom_88 rfl rfl ?_
    refine wp_aload_n dX7_copyFrom_89 rfl rfl ?_
    refine wp_getR (b := (a1 + 4)) dX7_copyFrom_90 fX7_27 rfl h1.1 (by decide) rfl ?_
    refine wp_iload_n dX7_copyFrom_93 rfl rfl ?_
    refine wp_iald dX7_copyFrom_94 h1.2.2.2.2.1 (h.2 c1).2.2.1 ?_
    refine wp_iast dX7_copyFrom_95 h0.2.2.2.2.1 (h.2 c1).2.2.2.1 ?_
    refine wp_aload_n dX7_copyFrom_96 rfl rfl ?_
    refine wp_getR (b := (a0 + 5)) dX7_copyFrom_97 fX7_30 rfl h0.1 (by decide) rfl ?_
    refine wp_iload_n dX7_copyFrom_100 rfl rfl ?_
    refine wp_aload_n dX7_copyFrom_101 rfl rfl ?_
    refine wp_getR (b := (a1 + 5)) dX7_copyFrom_102 fX7_30 rfl h1.1 (by decide) rfl ?_
    refine wp_iload_n dX7_copyFrom_105 rfl rfl ?_
    refine wp_zald dX7_copyFrom_106 h1.2.2.2.2.2.1 (h.2 c1).2.2.2.2.1 ?_
    refine wp_zast dX7_copyFrom_107 h0.2.2.2.2.2.1 (h.2 c1).2.2.2.2.2.1 (h.2 c1).2.2.2.2.2.2.1 ?_
    refine wp_iinc dX7_copyFrom_108 rfl rfl ?_
    refine wp_goto (tgt := 64) dX7_copyFrom_111 rfl ?_
    exact (h.2 c1).2.2.2.2.2.2.2
set_option maxHeartbeats 4000000 in
set_option maxRecDepth 10000 in
theorem sX7_rowAt {K : KK} {d : Nat} {V : Mem} {Q : Option AV → Mem → Prop} (a0 : Nat) (x1 : Int) (h0 : IsStore a0) (h : ((x1 < 0 → Q (some vN) V) ∧ (¬ (x1 < 0) → (((V a0 5) ≤ x1 → Q (some vN) V) ∧ (¬ ((V a0 5) ≤ x1) → (((0 : Int) ≤ x1 ∧ x1 < (4 : Nat)) ∧ Q (some (vR (a0 + 6 + 2 * Int.toNat x1))) V)))))) : Mf K d mX7_rowAt [vR a0, vI x1] V Q := by
  refine Mt.of2 (L := [some (vR a0), some (vI x1)]) pnX7 rfl rfl ?_
  refine wp_iload_n dX7_rowAt_0 rfl rfl ?_
  refine wp_if_lt (tgt := 21) dX7_rowAt_1 rfl (fun c1 => ?_) (fun c1 => ?_)
  ·
    refine wp_null dX7_rowAt_21 ?_
    exact wp_areturn dX7_rowAt_22 rfl ⟨rfl, rfl⟩ ⟨rfl, (h.1 c1)⟩
  ·
    refine wp_iload_n dX7_rowAt_4 rfl rfl ?_
    refine wp_aload_n dX7_rowAt_5 rfl rfl ?_
    refine wp_getI dX7_rowAt_6 fX7_36 rfl h0.1 (by decide) ?_
    refine wp_icmp_ge (tgt := 21) dX7_rowAt_9 rfl (fun c2 => ?_) (fun c2 => ?_)
    ·
      refine wp_null dX7_rowAt_21 ?_
      exact wp_areturn dX7_rowAt_22 rfl ⟨rfl, rfl⟩ ⟨rfl, ((h.2 c1).1 c2)⟩
    ·
      refine wp_aload_n dX7_rowAt_12 rfl rfl ?_
      refine wp_getR (b := (a0 + 1)) dX7_rowAt_13 fX7_11 rfl h0.1 (by decide) rfl ?_
      refine wp_iload_n dX7_rowAt_16 rfl rfl ?_
      have g3 : (0 : Int) ≤ x1 ∧ x1 < (4 : Nat) := ((h.2 c1).2 c2).1
      refine wp_aald (b := (a0 + 6 + 2 * Int.toNat x1)) dX7_rowAt_17 h0.2.1 (by decide) g3 (ap_get (b := a0 + 6) (s := 2) (n := 4) g3) ?_
      refine wp_goto (tgt := 22) dX7_rowAt_18 rfl ?_
      exact wp_areturn dX7_rowAt_22 rfl ⟨rfl, rfl⟩ ⟨rfl, ((h.2 c1).2 c2).2⟩
set_option maxHeartbeats 4000000 in
set_option maxRecDepth 10000 in
theorem sX7_braidAt {K : KK} {d : Nat} {V : Mem} {Q : Option AV → Mem → Prop} (a0 : Nat) (x1 : Int) (h0 : IsStore a0) (h : ((x1 < 0 → Q (some vN) V) ∧ (¬ (x1 < 0) → (((V a0 6) ≤ x1 → Q (some vN) V) ∧ (¬ ((V a0 6) ≤ x1) → (((0 : Int) ≤ x1 ∧ x1 < (8 : Nat)) ∧ Q (some (vR (a0 + 14 + 2 * Int.toNat x1))) V)))))) : Mf K d mX7_braidAt [vR a0, vI x1] V Q := by
  refine Mt.of2 (L := [some (vR a0), some (vI x1)]) pnX7 rfl rfl ?_
  refine wp_iload_n dX7_braidAt_0 rfl rfl ?_
  refine wp_if_lt (tgt := 21) dX7_braidAt_1 rfl (fun c1 => ?_) (fun c1 => ?_)
  ·
    refine wp_null dX7_braidAt_21 ?_
    exact wp_areturn dX7_braidAt_22 rfl ⟨rfl, rfl⟩ ⟨rfl, (h.1 c1)⟩
  ·
    refine wp_iload_n dX7_braidAt_4 rfl rfl ?_
    refine wp_aload_n dX7_braidAt_5 rfl rfl ?_
    refine wp_getI dX7_braidAt_6 fX7_40 rfl h0.1 (by decide) ?_
    refine wp_icmp_ge (tgt := 21) dX7_braidAt_9 rfl (fun c2 => ?_) (fun c2 => ?_)
    ·
      refine wp_null dX7_braidAt_21 ?_
      exact wp_areturn dX7_braidAt_22 rfl ⟨rfl, rfl⟩ ⟨rfl, ((h.2 c1).1 c2)⟩
    ·
      refine wp_aload_n dX7_braidAt_12 rfl rfl ?_
      refine wp_getR (b := (a0 + 2)) dX7_braidAt_13 fX7_19 rfl h0.1 (by decide) rfl ?_
      refine wp_iload_n dX7_braidAt_16 rfl rfl ?_
      have g3 : (0 : Int) ≤ x1 ∧ x1 < (8 : Nat) := ((h.2 c1).2 c2).1
      refine wp_aald (b := (a0 + 14 + 2 * Int.toNat x1)) dX7_braidAt_17 h0.2.2.1 (by decide) g3 (ap_get (b := a0 + 14) (s := 2) (n := 8) g3) ?_
      refine wp_goto (tgt := 22) dX7_braidAt_18 rfl ?_
      exact wp_areturn dX7_braidAt_22 rfl ⟨rfl, rfl⟩ ⟨rfl, ((h.2 c1).2 c2).2⟩
set_option maxHeartbeats 4000000 in
set_option maxRecDepth 10000 in
theorem sX7_rowNamed {K : KK} {d : Nat} {V : Mem} {Q : Option AV → Mem → Prop} (a0 : Nat) (j1 : Int) (h0 : IsStore a0) (h : Wf K d mX7_rowNamed 2 [some (vR a0), some (vJ j1), none, some (vI 0)] [] V Q) : Mf K d mX7_rowNamed [vR a0, vJ j1] V Q := by
  refine Mt.of2 (L := [some (vR a0), some (vJ j1), none, none]) pnX7 rfl rfl ?_
  refine wp_iconst dX7_rowNamed_0 (by decide) ?_
  refine wp_istore_n dX7_rowNamed_1 rfl (by decide) rfl ?_
  exact h
set_option maxHeartbeats 4000000 in
set_option maxRecDepth 10000 in
theorem sX7_rowNamed_2 {K : KK} {d : Nat} {V : Mem} {Q : Option AV → Mem → Prop} (a0 : Nat) (j1 : Int) (x3 : Int) (h0 : IsStore a0) (h : (((V a0 5) ≤ x3 → Q (some (vI (-1))) V) ∧ (¬ ((V a0 5) ≤ x3) → (((0 : Int) ≤ x3 ∧ x3 < (4 : Nat)) ∧ ((¬ (b_lcmp (V (a0 + 6 + 2 * Int.toNat x3) 1) j1) = 0 → Wf K d mX7_rowNamed 2 [some (vR a0), some (vJ j1), none, some (vI (w32 (x3 + 1)))] [] V Q) ∧ ((b_lcmp (V (a0 + 6 + 2 * Int.toNat x3) 1) j1) = 0 → Q (some (vI x3)) V)))))) : Wf K d mX7_rowNamed 2 [some (vR a0), some (vJ j1), none, some (vI x3)] [] V Q := by
  refine wp_iload_n dX7_rowNamed_2 rfl rfl ?_
  refine wp_aload_n dX7_rowNamed_3 rfl rfl ?_
  refine wp_getI dX7_rowNamed_4 fX7_36 rfl h0.1 (by decide) ?_
  refine wp_icmp_ge (tgt := 32) dX7_rowNamed_7 rfl (fun c1 => ?_) (fun c1 => ?_)
  ·
    refine wp_iconst dX7_rowNamed_32 (by decide) ?_
    exact wp_ireturn dX7_rowNamed_33 rfl ⟨rfl, rfl⟩ ⟨rfl, (h.1 c1)⟩
  ·
    refine wp_aload_n dX7_rowNamed_10 rfl rfl ?_
    refine wp_getR (b := (a0 + 1)) dX7_rowNamed_11 fX7_11 rfl h0.1 (by decide) rfl ?_
    refine wp_iload_n dX7_rowNamed_14 rfl rfl ?_
    have g2 : (0 : Int) ≤ x3 ∧ x3 < (4 : Nat) := (h.2 c1).1
    refine wp_aald (b := (a0 + 6 + 2 * Int.toNat x3)) dX7_rowNamed_15 h0.2.1 (by decide) g2 (ap_get (b := a0 + 6) (s := 2) (n := 4) g2) ?_
    refine wp_getJ dX7_rowNamed_16 fX7_53 rfl (IsStore.row h0 g2).1 (by decide) ?_
    refine wp_lload_n dX7_rowNamed_19 rfl rfl ?_
    refine wp_lcmp dX7_rowNamed_20 ?_
    refine wp_if_ne (tgt := 26) dX7_rowNamed_21 rfl (fun c3 => ?_) (fun c3 => ?_)
    ·
      refine wp_iinc dX7_rowNamed_26 rfl rfl ?_
      refine wp_goto (tgt := 2) dX7_rowNamed_29 rfl ?_
      exact ((h.2 c1).2.1 c3)
    ·
      refine wp_iload_n dX7_rowNamed_24 rfl rfl ?_
      exact wp_ireturn dX7_rowNamed_25 rfl ⟨rfl, rfl⟩ ⟨rfl, ((h.2 c1).2.2 c3)⟩
set_option maxHeartbeats 4000000 in
set_option maxRecDepth 10000 in
theorem sX7_braidNamed {K : KK} {d : Nat} {V : Mem} {Q : Option AV → Mem → Prop} (a0 : Nat) (j1 : Int) (h0 : IsStore a0) (h : Wf K d mX7_braidNamed 2 [some (vR a0), some (vJ j1), none, some (vI 0)] [] V Q) : Mf K d mX7_braidNamed [vR a0, vJ j1] V Q := by
  refine Mt.of2 (L := [some (vR a0), some (vJ j1), none, none]) pnX7 rfl rfl ?_
  refine wp_iconst dX7_braidNamed_0 (by decide) ?_
  refine wp_istore_n dX7_braidNamed_1 rfl (by decide) rfl ?_
  exact h
set_option maxHeartbeats 4000000 in
set_option maxRecDepth 10000 in
theorem sX7_braidNamed_2 {K : KK} {d : Nat} {V : Mem} {Q : Option AV → Mem → Prop} (a0 : Nat) (j1 : Int) (x3 : Int) (h0 : IsStore a0) (h : (((V a0 6) ≤ x3 → Q (some (vI (-1))) V) ∧ (¬ ((V a0 6) ≤ x3) → (((0 : Int) ≤ x3 ∧ x3 < (8 : Nat)) ∧ ((¬ (b_lcmp (V (a0 + 14 + 2 * Int.toNat x3) 1) j1) = 0 → Wf K d mX7_braidNamed 2 [some (vR a0), some (vJ j1), none, some (vI (w32 (x3 + 1)))] [] V Q) ∧ ((b_lcmp (V (a0 + 14 + 2 * Int.toNat x3) 1) j1) = 0 → Q (some (vI x3)) V)))))) : Wf K d mX7_braidNamed 2 [some (vR a0), some (vJ j1), none, some (vI x3)] [] V Q := by
  refine wp_iload_n dX7_braidNamed_2 rfl rfl ?_
  refine wp_aload_n dX7_braidNamed_3 rfl rfl ?_
  refine wp_getI dX7_braidNamed_4 fX7_40 rfl h0.1 (by decide) ?_
  refine wp_icmp_ge (tgt := 32) dX7_braidNamed_7 rfl (fun c1 => ?_) (fun c1 => ?_)
  ·
    refine wp_iconst dX7_braidNamed_32 (by decide) ?_
    exact wp_ireturn dX7_braidNamed_33 rfl ⟨rfl, rfl⟩ ⟨rfl, (h.1 c1)⟩
  ·
    refine wp_aload_n dX7_braidNamed_10 rfl rfl ?_
    refine wp_getR (b := (a0 + 2)) dX7_braidNamed_11 fX7_19 rfl h0.1 (by decide) rfl ?_
    refine wp_iload_n dX7_braidNamed_14 rfl rfl ?_
    have g2 : (0 : Int) ≤ x3 ∧ x3 < (8 : Nat) := (h.2 c1).1
    refine wp_aald (b := (a0 + 14 + 2 * Int.toNat x3)) dX7_braidNamed_15 h0.2.2.1 (by decide) g2 (ap_get (b := a0 + 14) (s := 2) (n := 8) g2) ?_
    refine wp_getJ dX7_braidNamed_16 fX7_57 rfl (IsStore.braid h0 g2).1 (by decide) ?_
    refine wp_lload_n dX7_braidNamed_19 rfl rfl ?_
    refine wp_lcmp dX7_braidNamed_20 ?_
    refine wp_if_ne (tgt := 26) dX7_braidNamed_21 rfl (fun c3 => ?_) (fun c3 => ?_)
    ·
      refine wp_iinc dX7_braidNamed_26 rfl rfl ?_
      refine wp_goto (tgt := 2) dX7_braidNamed_29 rfl ?_
      exact ((h.2 c1).2.1 c3)
    ·
      refine wp_iload_n dX7_braidNamed_24 rfl rfl ?_
      exact wp_ireturn dX7_braidNamed_25 rfl ⟨rfl, rfl⟩ ⟨rfl, ((h.2 c1).2.2 c3)⟩
set_option maxHeartbeats 4000000 in
set_option maxRecDepth 10000 in
theorem sX7_allNumbers {K : KK} {d : Nat} {V : Mem} {Q : Option AV → Mem → Prop} (a0 : Nat) (h0 : IsStore a0) (h : Wf K d mX7_allNumbers 4 [some (vR a0), some (vI 0), some (vI 0)] [] V Q) : Mf K d mX7_allNumbers [vR a0] V Q := by
  refine Mt.of2 (L := [some (vR a0), none, none]) pnX7 rfl rfl ?_
  refine wp_iconst dX7_allNumbers_0 (by decide) ?_
  refine wp_istore_n dX7_allNumbers_1 rfl (by decide) rfl ?_
  refine wp_iconst dX7_allNumbers_2 (by decide) ?_
  refine wp_istore_n dX7_allNumbers_3 rfl (by decide) rfl ?_
  exact h
set_option maxHeartbeats 4000000 in
set_option maxRecDepth 10000 in
theorem sX7_allNumbers_4 {K : KK} {d : Nat} {V : Mem} {Q : Option AV → Mem → Prop} (a0 : Nat) (x1 : Int) (x2 : Int) (h0 : IsStore a0) (h : (((V a0 5) ≤ x2 → Q (some (vI x1)) V) ∧ (¬ ((V a0 5) ≤ x2) → (((0 : Int) ≤ x2 ∧ x2 < (4 : Nat)) ∧ Wf K d mX7_allNumbers 4 [some (vR a0), some (vI (w32 (x1 + (V (a0 + 6 + 2 * Int.toNat x2) 3)))), some (vI (w32 (x2 + 1)))] [] V Q)))) : Wf K d mX7_allNumbers 4 [some (vR a0), some (vI x1), some (vI x2)] [] V Q := by
  refine wp_iload_n dX7_allNumbers_4 rfl rfl ?_
  refine wp_aload_n dX7_allNumbers_5 rfl rfl ?_
  refine wp_getI dX7_allNumbers_6 fX7_36 rfl h0.1 (by decide) ?_
  refine wp_icmp_ge (tgt := 30) dX7_allNumbers_9 rfl (fun c1 => ?_) (fun c1 => ?_)
  ·
    refine wp_iload_n dX7_allNumbers_30 rfl rfl ?_
    exact wp_ireturn dX7_allNumbers_31 rfl ⟨rfl, rfl⟩ ⟨rfl, (h.1 c1)⟩
  ·
    refine wp_iload_n dX7_allNumbers_12 rfl rfl ?_
    refine wp_aload_n dX7_allNumbers_13 rfl rfl ?_
    refine wp_getR (b := (a0 + 1)) dX7_allNumbers_14 fX7_11 rfl h0.1 (by decide) rfl ?_
    refine wp_iload_n dX7_allNumbers_17 rfl rfl ?_
    have g2 : (0 : Int) ≤ x2 ∧ x2 < (4 : Nat) := (h.2 c1).1
    refine wp_aald (b := (a0 + 6 + 2 * Int.toNat x2)) dX7_allNumbers_18 h0.2.1 (by decide) g2 (ap_get (b := a0 + 6) (s := 2) (n := 4) g2) ?_
    refine wp_getI dX7_allNumbers_19 fX7_58 rfl (IsStore.row h0 g2).1 (by decide) ?_
    refine wp_iadd dX7_allNumbers_22 ?_
    refine wp_istore_n dX7_allNumbers_23 rfl (by decide) rfl ?_
    refine wp_iinc dX7_allNumbers_24 rfl rfl ?_
    refine wp_goto (tgt := 4) dX7_allNumbers_27 rfl ?_
    exact (h.2 c1).2
set_option maxHeartbeats 4000000 in
set_option maxRecDepth 10000 in
theorem sX7_grow {K : KK} {d : Nat} {V : Mem} {Q : Option AV → Mem → Prop} (a0 : Nat) (x1 : Int) (x2 : Int) (h0 : IsStore a0) (h : ((x1 < 0 → Q (some (vI (-1))) V) ∧ (¬ (x1 < 0) → (((V a0 5) ≤ x1 → Q (some (vI (-1))) V) ∧ (¬ ((V a0 5) ≤ x1) → (((0 : Int) ≤ x1 ∧ x1 < (4 : Nat)) ∧ ((x2 < 0 → Q (some (vI (-1))) V) ∧ (¬ (x2 < 0) → ((99 < x2 → Q (some (vI (-1))) V) ∧ (¬ (99 < x2) → Mf K d mX6_add [vR (a0 + 6 + 2 * Int.toNat x1), vI x2] V (fun r V6 => ∃ z6, r = some (vI z6) ∧ ((¬ z6 = 0 → Q (some (vI (V6 (a0 + 6 + 2 * Int.toNat x1) 3))) V6) ∧ (z6 = 0 → Q (some (vI (-1))) V6))))))))))))) : Mf K (d + 1) mX7_grow [vR a0, vI x1, vI x2] V Q := by
  refine Mt.of2 (L := [some (vR a0), some (vI x1), some (vI x2), none]) pnX7 rfl rfl ?_
  refine wp_aload_n dX7_grow_0 rfl rfl ?_
  refine wp_iload_n dX7_grow_1 rfl rfl ?_
  refine wp_inlV (d' := d) (S := []) (as := [vI x1]) dX7_grow_2 lX7_61 (by omega) h0.1 rfl rfl (Nat.le_of_ble_eq_true rfl) ⟨Nat.le_refl _, Nat.le_refl _⟩ (Mt.of2 (L := [some (vR a0), some (vI x1)]) pnX7 rfl rfl ?_)
  refine wp_iload_n dX7_rowAt_0 rfl rfl ?_
  refine wp_if_lt (tgt := 21) dX7_rowAt_1 rfl (fun c1 => ?_) (fun c1 => ?_)
  ·
    refine wp_null dX7_rowAt_21 ?_
    refine wp_areturn dX7_rowAt_22 rfl ⟨rfl, rfl⟩ ?_
    show Wp _ _ _ _ _ 5 _ [vN] _ _ _ _ _
    refine wp_astore_nN dX7_grow_5 rfl (by decide) rfl ?_
    refine wp_aload_nN dX7_grow_6 rfl rfl ?_
    refine wp_ifnullN (tgt := 28) dX7_grow_7 rfl ?_
    refine wp_iconst dX7_grow_28 (by decide) ?_
    exact wp_ireturn dX7_grow_29 rfl ⟨rfl, rfl⟩ ⟨rfl, (h.1 c1)⟩
  ·
    refine wp_iload_n dX7_rowAt_4 rfl rfl ?_
    refine wp_aload_n dX7_rowAt_5 rfl rfl ?_
    refine wp_getI dX7_rowAt_6 fX7_36 rfl h0.1 (by decide) ?_
    refine wp_icmp_ge (tgt := 21) dX7_rowAt_9 rfl (fun c2 => ?_) (fun c2 => ?_)
    ·
      refine wp_null dX7_rowAt_21 ?_
      refine wp_areturn dX7_rowAt_22 rfl ⟨rfl, rfl⟩ ?_
      show Wp _ _ _ _ _ 5 _ [vN] _ _ _ _ _
      refine wp_astore_nN dX7_grow_5 rfl (by decide) rfl ?_
      refine wp_aload_nN dX7_grow_6 rfl rfl ?_
      refine wp_ifnullN (tgt := 28) dX7_grow_7 rfl ?_
      refine wp_iconst dX7_grow_28 (by decide) ?_
      exact wp_ireturn dX7_grow_29 rfl ⟨rfl, rfl⟩ ⟨rfl, ((h.2 c1).1 c2)⟩
    ·
      refine wp_aload_n dX7_rowAt_12 rfl rfl ?_
      refine wp_getR (b := (a0 + 1)) dX7_rowAt_13 fX7_11 rfl h0.1 (by decide) rfl ?_
      refine wp_iload_n dX7_rowAt_16 rfl rfl ?_
      have g3 : (0 : Int) ≤ x1 ∧ x1 < (4 : Nat) := ((h.2 c1).2 c2).1
      refine wp_aald (b := (a0 + 6 + 2 * Int.toNat x1)) dX7_rowAt_17 h0.2.1 (by decide) g3 (ap_get (b := a0 + 6) (s := 2) (n := 4) g3) ?_
      refine wp_goto (tgt := 22) dX7_rowAt_18 rfl ?_
      refine wp_areturn dX7_rowAt_22 rfl ⟨rfl, rfl⟩ ?_
      show Wp _ _ _ _ _ 5 _ [vR (a0 + 6 + 2 * Int.toNat x1)] _ _ _ _ _
      refine wp_astore_n dX7_grow_5 rfl (by decide) rfl ?_
      refine wp_aload_n dX7_grow_6 rfl rfl ?_
      refine wp_ifnull dX7_grow_7 ?_
      refine wp_iload_n dX7_grow_10 rfl rfl ?_
      refine wp_if_lt (tgt := 28) dX7_grow_11 rfl (fun c4 => ?_) (fun c4 => ?_)
      ·
        refine wp_iconst dX7_grow_28 (by decide) ?_
        exact wp_ireturn dX7_grow_29 rfl ⟨rfl, rfl⟩ ⟨rfl, (((h.2 c1).2 c2).2.1 c4)⟩
      ·
        refine wp_iload_n dX7_grow_14 rfl rfl ?_
        refine wp_bipush dX7_grow_15 (by decide) ?_
        refine wp_icmp_gt (tgt := 28) dX7_grow_17 rfl (fun c5 => ?_) (fun c5 => ?_)
        ·
          refine wp_iconst dX7_grow_28 (by decide) ?_
          exact wp_ireturn dX7_grow_29 rfl ⟨rfl, rfl⟩ ⟨rfl, ((((h.2 c1).2 c2).2.2 c4).1 c5)⟩
        ·
          refine wp_aload_n dX7_grow_20 rfl rfl ?_
          refine wp_iload_n dX7_grow_21 rfl rfl ?_
          refine wp_callV (S := []) (as := [vI x2]) dX7_grow_22 lX7_65 (((((h.2 c1).2 c2).2.2 c4).2 c5)) (by omega) (IsStore.row h0 g3).1 rfl rfl (Nat.le_of_ble_eq_true rfl) ⟨Nat.le_refl _, Nat.le_refl _⟩ ?_
          rintro _ _ V6 ⟨rfl, z6, rfl, q6⟩
          show Wp _ _ _ _ _ 25 _ [vI z6] _ _ _ _ _
          refine wp_if_ne (tgt := 30) dX7_grow_25 rfl (fun c7 => ?_) (fun c7 => ?_)
          ·
            refine wp_aload_n dX7_grow_30 rfl rfl ?_
            refine wp_getI dX7_grow_31 fX7_58 rfl (IsStore.row h0 g3).1 (by decide) ?_
            exact wp_ireturn dX7_grow_34 rfl ⟨rfl, rfl⟩ ⟨rfl, (q6.1 c7)⟩
          ·
            refine wp_iconst dX7_grow_28 (by decide) ?_
            exact wp_ireturn dX7_grow_29 rfl ⟨rfl, rfl⟩ ⟨rfl, (q6.2 c7)⟩
set_option maxHeartbeats 4000000 in
set_option maxRecDepth 10000 in
theorem sX7_shrink {K : KK} {d : Nat} {V : Mem} {Q : Option AV → Mem → Prop} (a0 : Nat) (x1 : Int) (h0 : IsStore a0) (h : ((x1 < 0 → Q (some (vI (-1))) V) ∧ (¬ (x1 < 0) → (((V a0 5) ≤ x1 → Q (some (vI (-1))) V) ∧ (¬ ((V a0 5) ≤ x1) → (((0 : Int) ≤ x1 ∧ x1 < (4 : Nat)) ∧ ((2 ≤ (V (a0 + 6 + 2 * Int.toNat x1) 3) → (((0 : Int) ≤ ((upm V (a0 + 6 + 2 * Int.toNat x1) 3 (w32 ((V (a0 + 6 + 2 * Int.toNat x1) 3) - 1))) (a0 + 6 + 2 * Int.toNat x1) 3) ∧ ((upm V (a0 + 6 + 2 * Int.toNat x1) 3 (w32 ((V (a0 + 6 + 2 * Int.toNat x1) 3) - 1))) (a0 + 6 + 2 * Int.toNat x1) 3) < (20 : Nat)) ∧ Q (some (vI ((upm V (a0 + 6 + 2 * Int.toNat x1) 3 (w32 ((V (a0 + 6 + 2 * Int.toNat x1) 3) - 1))) ((a0 + 6 + 2 * Int.toNat x1) + 1) (Int.toNat ((upm V (a0 + 6 + 2 * Int.toNat x1) 3 (w32 ((V (a0 + 6 + 2 * Int.toNat x1) 3) - 1))) (a0 + 6 + 2 * Int.toNat x1) 3))))) (upm V (a0 + 6 + 2 * Int.toNat x1) 3 (w32 ((V (a0 + 6 + 2 * Int.toNat x1) 3) - 1))))) ∧ (¬ (2 ≤ (V (a0 + 6 + 2 * Int.toNat x1) 3)) → Q (some (vI (-1))) V)))))))) : Mf K (d + 1) mX7_shrink [vR a0, vI x1] V Q := by
  refine Mt.of2 (L := [some (vR a0), some (vI x1), none]) pnX7 rfl rfl ?_
  refine wp_aload_n dX7_shrink_0 rfl rfl ?_
  refine wp_iload_n dX7_shrink_1 rfl rfl ?_
  refine wp_inlV (d' := d) (S := []) (as := [vI x1]) dX7_shrink_2 lX7_61 (by omega) h0.1 rfl rfl (Nat.le_of_ble_eq_true rfl) ⟨Nat.le_refl _, Nat.le_refl _⟩ (Mt.of2 (L := [some (vR a0), some (vI x1)]) pnX7 rfl rfl ?_)
  refine wp_iload_n dX7_rowAt_0 rfl rfl ?_
  refine wp_if_lt (tgt := 21) dX7_rowAt_1 rfl (fun c1 => ?_) (fun c1 => ?_)
  ·
    refine wp_null dX7_rowAt_21 ?_
    refine wp_areturn dX7_rowAt_22 rfl ⟨rfl, rfl⟩ ?_
    show Wp _ _ _ _ _ 5 _ [vN] _ _ _ _ _
    refine wp_astore_nN dX7_shrink_5 rfl (by decide) rfl ?_
    refine wp_aload_nN dX7_shrink_6 rfl rfl ?_
    refine wp_ifnullN (tgt := 18) dX7_shrink_7 rfl ?_
    refine wp_iconst dX7_shrink_18 (by decide) ?_
    exact wp_ireturn dX7_shrink_19 rfl ⟨rfl, rfl⟩ ⟨rfl, (h.1 c1)⟩
  ·
    refine wp_iload_n dX7_rowAt_4 rfl rfl ?_
    refine wp_aload_n dX7_rowAt_5 rfl rfl ?_
    refine wp_getI dX7_rowAt_6 fX7_36 rfl h0.1 (by decide) ?_
    refine wp_icmp_ge (tgt := 21) dX7_rowAt_9 rfl (fun c2 => ?_) (fun c2 => ?_)
    ·
      refine wp_null dX7_rowAt_21 ?_
      refine wp_areturn dX7_rowAt_22 rfl ⟨rfl, rfl⟩ ?_
      show Wp _ _ _ _ _ 5 _ [vN] _ _ _ _ _
      refine wp_astore_nN dX7_shrink_5 rfl (by decide) rfl ?_
      refine wp_aload_nN dX7_shrink_6 rfl rfl ?_
      refine wp_ifnullN (tgt := 18) dX7_shrink_7 rfl ?_
      refine wp_iconst dX7_shrink_18 (by decide) ?_
      exact wp_ireturn dX7_shrink_19 rfl ⟨rfl, rfl⟩ ⟨rfl, ((h.2 c1).1 c2)⟩
    ·
      refine wp_aload_n dX7_rowAt_12 rfl rfl ?_
      refine wp_getR (b := (a0 + 1)) dX7_rowAt_13 fX7_11 rfl h0.1 (by decide) rfl ?_
      refine wp_iload_n dX7_rowAt_16 rfl rfl ?_
      have g3 : (0 : Int) ≤ x1 ∧ x1 < (4 : Nat) := ((h.2 c1).2 c2).1
      refine wp_aald (b := (a0 + 6 + 2 * Int.toNat x1)) dX7_rowAt_17 h0.2.1 (by decide) g3 (ap_get (b := a0 + 6) (s := 2) (n := 4) g3) ?_
      refine wp_goto (tgt := 22) dX7_rowAt_18 rfl ?_
      refine wp_areturn dX7_rowAt_22 rfl ⟨rfl, rfl⟩ ?_
      show Wp _ _ _ _ _ 5 _ [vR (a0 + 6 + 2 * Int.toNat x1)] _ _ _ _ _
      refine wp_astore_n dX7_shrink_5 rfl (by decide) rfl ?_
      refine wp_aload_n dX7_shrink_6 rfl rfl ?_
      refine wp_ifnull dX7_shrink_7 ?_
      refine wp_aload_n dX7_shrink_10 rfl rfl ?_
      refine wp_getI dX7_shrink_11 fX7_58 rfl (IsStore.row h0 g3).1 (by decide) ?_
      refine wp_iconst dX7_shrink_14 (by decide) ?_
      refine wp_icmp_ge (tgt := 20) dX7_shrink_15 rfl (fun c4 => ?_) (fun c4 => ?_)
      ·
        refine wp_aload_n dX7_shrink_20 rfl rfl ?_
        refine wp_dup dX7_shrink_21 rfl ?_
        refine wp_getI dX7_shrink_22 fX7_58 rfl (IsStore.row h0 g3).1 (by decide) ?_
        refine wp_iconst dX7_shrink_25 (by decide) ?_
        refine wp_isub dX7_shrink_26 ?_
        refine wp_putI dX7_shrink_27 fwX7_58 rfl (IsStore.row h0 g3).1 (by decide) ?_
        refine wp_aload_n dX7_shrink_30 rfl rfl ?_
        refine wp_getR (b := ((a0 + 6 + 2 * Int.toNat x1) + 1)) dX7_shrink_31 fX7_69 rfl (IsStore.row h0 g3).1 (by decide) rfl ?_
        refine wp_aload_n dX7_shrink_34 rfl rfl ?_
        refine wp_getI dX7_shrink_35 fX7_58 rfl (IsStore.row h0 g3).1 (by decide) ?_
        refine wp_iald dX7_shrink_38 (IsStore.row h0 g3).2 (((h.2 c1).2 c2).2.1 c4).1 ?_
        exact wp_ireturn dX7_shrink_39 rfl ⟨rfl, rfl⟩ ⟨rfl, (((h.2 c1).2 c2).2.1 c4).2⟩
      ·
        refine wp_iconst dX7_shrink_18 (by decide) ?_
        exact wp_ireturn dX7_shrink_19 rfl ⟨rfl, rfl⟩ ⟨rfl, (((h.2 c1).2 c2).2.2 c4)⟩
set_option maxHeartbeats 4000000 in
set_option maxRecDepth 10000 in
theorem sX7_reverse {K : KK} {d : Nat} {V : Mem} {Q : Option AV → Mem → Prop} (a0 : Nat) (x1 : Int) (h0 : IsStore a0) (h : ((x1 < 0 → Q (some (vI 0)) V) ∧ (¬ (x1 < 0) → (((V a0 5) ≤ x1 → Q (some (vI 0)) V) ∧ (¬ ((V a0 5) ≤ x1) → (((0 : Int) ≤ x1 ∧ x1 < (4 : Nat)) ∧ Mf K d mX6_flip [vR (a0 + 6 + 2 * Int.toNat x1)] V (fun r V4 => r = none ∧ Q (some (vI 1)) V4))))))) : Mf K (d + 1) mX7_reverse [vR a0, vI x1] V Q := by
  refine Mt.of2 (L := [some (vR a0), some (vI x1), none]) pnX7 rfl rfl ?_
  refine wp_aload_n dX7_reverse_0 rfl rfl ?_
  refine wp_iload_n dX7_reverse_1 rfl rfl ?_
  refine wp_inlV (d' := d) (S := []) (as := [vI x1]) dX7_reverse_2 lX7_61 (by omega) h0.1 rfl rfl (Nat.le_of_ble_eq_true rfl) ⟨Nat.le_refl _, Nat.le_refl _⟩ (Mt.of2 (L := [some (vR a0), some (vI x1)]) pnX7 rfl rfl ?_)
  refine wp_iload_n dX7_rowAt_0 rfl rfl ?_
  refine wp_if_lt (tgt := 21) dX7_rowAt_1 rfl (fun c1 => ?_) (fun c1 => ?_)
  ·
    refine wp_null dX7_rowAt_21 ?_
    refine wp_areturn dX7_rowAt_22 rfl ⟨rfl, rfl⟩ ?_
    show Wp _ _ _ _ _ 5 _ [vN] _ _ _ _ _
    refine wp_astore_nN dX7_reverse_5 rfl (by decide) rfl ?_
    refine wp_aload_nN dX7_reverse_6 rfl rfl ?_
    refine wp_ifnonnullN dX7_reverse_7 ?_
    refine wp_iconst dX7_reverse_10 (by decide) ?_
    exact wp_zreturn dX7_reverse_11 rfl ⟨rfl, rfl⟩ (by decide) ⟨rfl, (h.1 c1)⟩
  ·
    refine wp_iload_n dX7_rowAt_4 rfl rfl ?_
    refine wp_aload_n dX7_rowAt_5 rfl rfl ?_
    refine wp_getI dX7_rowAt_6 fX7_36 rfl h0.1 (by decide) ?_
    refine wp_icmp_ge (tgt := 21) dX7_rowAt_9 rfl (fun c2 => ?_) (fun c2 => ?_)
    ·
      refine wp_null dX7_rowAt_21 ?_
      refine wp_areturn dX7_rowAt_22 rfl ⟨rfl, rfl⟩ ?_
      show Wp _ _ _ _ _ 5 _ [vN] _ _ _ _ _
      refine wp_astore_nN dX7_reverse_5 rfl (by decide) rfl ?_
      refine wp_aload_nN dX7_reverse_6 rfl rfl ?_
      refine wp_ifnonnullN dX7_reverse_7 ?_
      refine wp_iconst dX7_reverse_10 (by decide) ?_
      exact wp_zreturn dX7_reverse_11 rfl ⟨rfl, rfl⟩ (by decide) ⟨rfl, ((h.2 c1).1 c2)⟩
    ·
      refine wp_aload_n dX7_rowAt_12 rfl rfl ?_
      refine wp_getR (b := (a0 + 1)) dX7_rowAt_13 fX7_11 rfl h0.1 (by decide) rfl ?_
      refine wp_iload_n dX7_rowAt_16 rfl rfl ?_
      have g3 : (0 : Int) ≤ x1 ∧ x1 < (4 : Nat) := ((h.2 c1).2 c2).1
      refine wp_aald (b := (a0 + 6 + 2 * Int.toNat x1)) dX7_rowAt_17 h0.2.1 (by decide) g3 (ap_get (b := a0 + 6) (s := 2) (n := 4) g3) ?_
      refine wp_goto (tgt := 22) dX7_rowAt_18 rfl ?_
      refine wp_areturn dX7_rowAt_22 rfl ⟨rfl, rfl⟩ ?_
      show Wp _ _ _ _ _ 5 _ [vR (a0 + 6 + 2 * Int.toNat x1)] _ _ _ _ _
      refine wp_astore_n dX7_reverse_5 rfl (by decide) rfl ?_
      refine wp_aload_n dX7_reverse_6 rfl rfl ?_
      refine wp_ifnonnull (tgt := 12) dX7_reverse_7 rfl ?_
      refine wp_aload_n dX7_reverse_12 rfl rfl ?_
      refine wp_callV (S := []) (as := []) dX7_reverse_13 lX7_72 (((h.2 c1).2 c2).2) (by omega) (IsStore.row h0 g3).1 rfl rfl (Nat.le_of_ble_eq_true rfl) ⟨Nat.le_refl _, Nat.le_refl _⟩ ?_
      rintro _ _ V4 ⟨rfl, rfl, q4⟩
      show Wp _ _ _ _ _ 16 _ [] _ _ _ _ _
      refine wp_iconst dX7_reverse_16 (by decide) ?_
      exact wp_zreturn dX7_reverse_17 rfl ⟨rfl, rfl⟩ (by decide) ⟨rfl, q4⟩
set_option maxHeartbeats 4000000 in
set_option maxRecDepth 10000 in
theorem sX7_crossOver {K : KK} {d : Nat} {V : Mem} {Q : Option AV → Mem → Prop} (a0 : Nat) (x1 : Int) (x2 : Int) (h0 : IsStore a0) (h : ((x1 < 0 → Q (some (vI 0)) V) ∧ (¬ (x1 < 0) → (((V a0 6) ≤ x1 → Q (some (vI 0)) V) ∧ (¬ ((V a0 6) ≤ x1) → (((0 : Int) ≤ x1 ∧ x1 < (8 : Nat)) ∧ ((x2 < 0 → Q (some (vI 0)) V) ∧ (¬ (x2 < 0) → ((10 ≤ x2 → Q (some (vI 0)) V) ∧ (¬ (10 ≤ x2) → Mf K d mX0_crossAt [vR (a0 + 14 + 2 * Int.toNat x1), vI x2] V (fun r V6 => ∃ z6, r = some (vI z6) ∧ ((z6 = 0 → Q (some (vI 0)) V6) ∧ (¬ (z6 = 0) → Q (some (vI 1)) V6))))))))))))) : Mf K (d + 1) mX7_crossOver [vR a0, vI x1, vI x2] V Q := by
  refine Mt.of2 (L := [some (vR a0), some (vI x1), some (vI x2), none]) pnX7 rfl rfl ?_
  refine wp_aload_n dX7_crossOver_0 rfl rfl ?_
  refine wp_iload_n dX7_crossOver_1 rfl rfl ?_
  refine wp_inlV (d' := d) (S := []) (as := [vI x1]) dX7_crossOver_2 lX7_75 (by omega) h0.1 rfl rfl (Nat.le_of_ble_eq_true rfl) ⟨Nat.le_refl _, Nat.le_refl _⟩ (Mt.of2 (L := [some (vR a0), some (vI x1)]) pnX7 rfl rfl ?_)
  refine wp_iload_n dX7_braidAt_0 rfl rfl ?_
  refine wp_if_lt (tgt := 21) dX7_braidAt_1 rfl (fun c1 => ?_) (fun c1 => ?_)
  ·
    refine wp_null dX7_braidAt_21 ?_
    refine wp_areturn dX7_braidAt_22 rfl ⟨rfl, rfl⟩ ?_
    show Wp _ _ _ _ _ 5 _ [vN] _ _ _ _ _
    refine wp_astore_nN dX7_crossOver_5 rfl (by decide) rfl ?_
    refine wp_aload_nN dX7_crossOver_6 rfl rfl ?_
    refine wp_ifnullN (tgt := 32) dX7_crossOver_7 rfl ?_
    refine wp_iconst dX7_crossOver_32 (by decide) ?_
    exact wp_zreturn dX7_crossOver_33 rfl ⟨rfl, rfl⟩ (by decide) ⟨rfl, (h.1 c1)⟩
  ·
    refine wp_iload_n dX7_braidAt_4 rfl rfl ?_
    refine wp_aload_n dX7_braidAt_5 rfl rfl ?_
    refine wp_getI dX7_braidAt_6 fX7_40 rfl h0.1 (by decide) ?_
    refine wp_icmp_ge (tgt := 21) dX7_braidAt_9 rfl (fun c2 => ?_) (fun c2 => ?_)
    ·
      refine wp_null dX7_braidAt_21 ?_
      refine wp_areturn dX7_braidAt_22 rfl ⟨rfl, rfl⟩ ?_
      show Wp _ _ _ _ _ 5 _ [vN] _ _ _ _ _
      refine wp_astore_nN dX7_crossOver_5 rfl (by decide) rfl ?_
      refine wp_aload_nN dX7_crossOver_6 rfl rfl ?_
      refine wp_ifnullN (tgt := 32) dX7_crossOver_7 rfl ?_
      refine wp_iconst dX7_crossOver_32 (by decide) ?_
      exact wp_zreturn dX7_crossOver_33 rfl ⟨rfl, rfl⟩ (by decide) ⟨rfl, ((h.2 c1).1 c2)⟩
    ·
      refine wp_aload_n dX7_braidAt_12 rfl rfl ?_
      refine wp_getR (b := (a0 + 2)) dX7_braidAt_13 fX7_19 rfl h0.1 (by decide) rfl ?_
      refine wp_iload_n dX7_braidAt_16 rfl rfl ?_
      have g3 : (0 : Int) ≤ x1 ∧ x1 < (8 : Nat) := ((h.2 c1).2 c2).1
      refine wp_aald (b := (a0 + 14 + 2 * Int.toNat x1)) dX7_braidAt_17 h0.2.2.1 (by decide) g3 (ap_get (b := a0 + 14) (s := 2) (n := 8) g3) ?_
      refine wp_goto (tgt := 22) dX7_braidAt_18 rfl ?_
      refine wp_areturn dX7_braidAt_22 rfl ⟨rfl, rfl⟩ ?_
      show Wp _ _ _ _ _ 5 _ [vR (a0 + 14 + 2 * Int.toNat x1)] _ _ _ _ _
      refine wp_astore_n dX7_crossOver_5 rfl (by decide) rfl ?_
      refine wp_aload_n dX7_crossOver_6 rfl rfl ?_
      refine wp_ifnull dX7_crossOver_7 ?_
      refine wp_iload_n dX7_crossOver_10 rfl rfl ?_
      refine wp_if_lt (tgt := 32) dX7_crossOver_11 rfl (fun c4 => ?_) (fun c4 => ?_)
      ·
        refine wp_iconst dX7_crossOver_32 (by decide) ?_
        exact wp_zreturn dX7_crossOver_33 rfl ⟨rfl, rfl⟩ (by decide) ⟨rfl, (((h.2 c1).2 c2).2.1 c4)⟩
      ·
        refine wp_iload_n dX7_crossOver_14 rfl rfl ?_
        refine wp_bipush dX7_crossOver_15 (by decide) ?_
        refine wp_icmp_ge (tgt := 32) dX7_crossOver_17 rfl (fun c5 => ?_) (fun c5 => ?_)
        ·
          refine wp_iconst dX7_crossOver_32 (by decide) ?_
          exact wp_zreturn dX7_crossOver_33 rfl ⟨rfl, rfl⟩ (by decide) ⟨rfl, ((((h.2 c1).2 c2).2.2 c4).1 c5)⟩
        ·
          refine wp_aload_n dX7_crossOver_20 rfl rfl ?_
          refine wp_iload_n dX7_crossOver_21 rfl rfl ?_
          refine wp_callV (S := []) (as := [vI x2]) dX7_crossOver_22 lX7_79 (((((h.2 c1).2 c2).2.2 c4).2 c5)) (by omega) (IsStore.braid h0 g3).1 rfl rfl (Nat.le_of_ble_eq_true rfl) ⟨Nat.le_refl _, Nat.le_refl _⟩ ?_
          rintro _ _ V6 ⟨rfl, z6, rfl, q6⟩
          show Wp _ _ _ _ _ 25 _ [vI z6] _ _ _ _ _
          refine wp_if_eq (tgt := 32) dX7_crossOver_25 rfl (fun c7 => ?_) (fun c7 => ?_)
          ·
            refine wp_iconst dX7_crossOver_32 (by decide) ?_
            exact wp_zreturn dX7_crossOver_33 rfl ⟨rfl, rfl⟩ (by decide) ⟨rfl, (q6.1 c7)⟩
          ·
            refine wp_iconst dX7_crossOver_28 (by decide) ?_
            refine wp_goto (tgt := 33) dX7_crossOver_29 rfl ?_
            exact wp_zreturn dX7_crossOver_33 rfl ⟨rfl, rfl⟩ (by decide) ⟨rfl, (q6.2 c7)⟩
set_option maxHeartbeats 4000000 in
set_option maxRecDepth 10000 in
theorem sX7_crossBack {K : KK} {d : Nat} {V : Mem} {Q : Option AV → Mem → Prop} (a0 : Nat) (x1 : Int) (x2 : Int) (h0 : IsStore a0) (h : ((x1 < 0 → Q none V) ∧ (¬ (x1 < 0) → (((V a0 6) ≤ x1 → Q none V) ∧ (¬ ((V a0 6) ≤ x1) → (((0 : Int) ≤ x1 ∧ x1 < (8 : Nat)) ∧ Mf K d mX0_exchangeAt [vR (a0 + 14 + 2 * Int.toNat x1), vI x2] V (fun r V4 => ∃ z4, r = some (vI z4) ∧ Q none V4))))))) : Mf K (d + 1) mX7_crossBack [vR a0, vI x1, vI x2] V Q := by
  refine Mt.of2 (L := [some (vR a0), some (vI x1), some (vI x2), none]) pnX7 rfl rfl ?_
  refine wp_aload_n dX7_crossBack_0 rfl rfl ?_
  refine wp_iload_n dX7_crossBack_1 rfl rfl ?_
  refine wp_inlV (d' := d) (S := []) (as := [vI x1]) dX7_crossBack_2 lX7_75 (by omega) h0.1 rfl rfl (Nat.le_of_ble_eq_true rfl) ⟨Nat.le_refl _, Nat.le_refl _⟩ (Mt.of2 (L := [some (vR a0), some (vI x1)]) pnX7 rfl rfl ?_)
  refine wp_iload_n dX7_braidAt_0 rfl rfl ?_
  refine wp_if_lt (tgt := 21) dX7_braidAt_1 rfl (fun c1 => ?_) (fun c1 => ?_)
  ·
    refine wp_null dX7_braidAt_21 ?_
    refine wp_areturn dX7_braidAt_22 rfl ⟨rfl, rfl⟩ ?_
    show Wp _ _ _ _ _ 5 _ [vN] _ _ _ _ _
    refine wp_astore_nN dX7_crossBack_5 rfl (by decide) rfl ?_
    refine wp_aload_nN dX7_crossBack_6 rfl rfl ?_
    refine wp_ifnullN (tgt := 16) dX7_crossBack_7 rfl ?_
    exact wp_return dX7_crossBack_16 rfl ⟨rfl, rfl⟩ ⟨rfl, (h.1 c1)⟩
  ·
    refine wp_iload_n dX7_braidAt_4 rfl rfl ?_
    refine wp_aload_n dX7_braidAt_5 rfl rfl ?_
    refine wp_getI dX7_braidAt_6 fX7_40 rfl h0.1 (by decide) ?_
    refine wp_icmp_ge (tgt := 21) dX7_braidAt_9 rfl (fun c2 => ?_) (fun c2 => ?_)
    ·
      refine wp_null dX7_braidAt_21 ?_
      refine wp_areturn dX7_braidAt_22 rfl ⟨rfl, rfl⟩ ?_
      show Wp _ _ _ _ _ 5 _ [vN] _ _ _ _ _
      refine wp_astore_nN dX7_crossBack_5 rfl (by decide) rfl ?_
      refine wp_aload_nN dX7_crossBack_6 rfl rfl ?_
      refine wp_ifnullN (tgt := 16) dX7_crossBack_7 rfl ?_
      exact wp_return dX7_crossBack_16 rfl ⟨rfl, rfl⟩ ⟨rfl, ((h.2 c1).1 c2)⟩
    ·
      refine wp_aload_n dX7_braidAt_12 rfl rfl ?_
      refine wp_getR (b := (a0 + 2)) dX7_braidAt_13 fX7_19 rfl h0.1 (by decide) rfl ?_
      refine wp_iload_n dX7_braidAt_16 rfl rfl ?_
      have g3 : (0 : Int) ≤ x1 ∧ x1 < (8 : Nat) := ((h.2 c1).2 c2).1
      refine wp_aald (b := (a0 + 14 + 2 * Int.toNat x1)) dX7_braidAt_17 h0.2.2.1 (by decide) g3 (ap_get (b := a0 + 14) (s := 2) (n := 8) g3) ?_
      refine wp_goto (tgt := 22) dX7_braidAt_18 rfl ?_
      refine wp_areturn dX7_braidAt_22 rfl ⟨rfl, rfl⟩ ?_
      show Wp _ _ _ _ _ 5 _ [vR (a0 + 14 + 2 * Int.toNat x1)] _ _ _ _ _
      refine wp_astore_n dX7_crossBack_5 rfl (by decide) rfl ?_
      refine wp_aload_n dX7_crossBack_6 rfl rfl ?_
      refine wp_ifnull dX7_crossBack_7 ?_
      refine wp_aload_n dX7_crossBack_10 rfl rfl ?_
      refine wp_iload_n dX7_crossBack_11 rfl rfl ?_
      refine wp_callV (S := []) (as := [vI x2]) dX7_crossBack_12 lX7_82 (((h.2 c1).2 c2).2) (by omega) (IsStore.braid h0 g3).1 rfl rfl (Nat.le_of_ble_eq_true rfl) ⟨Nat.le_refl _, Nat.le_refl _⟩ ?_
      rintro _ _ V4 ⟨rfl, z4, rfl, q4⟩
      show Wp _ _ _ _ _ 15 _ [vI z4] _ _ _ _ _
      refine wp_pop dX7_crossBack_15 rfl ?_
      exact wp_return dX7_crossBack_16 rfl ⟨rfl, rfl⟩ ⟨rfl, q4⟩
set_option maxHeartbeats 4000000 in
set_option maxRecDepth 10000 in
theorem sX7_combine {K : KK} {d : Nat} {V : Mem} {Q : Option AV → Mem → Prop} (a0 : Nat) (x1 : Int) (x2 : Int) (h0 : IsStore a0) (h : ((x1 < 0 → ((x2 < 0 → Q (some (vI (-1))) V) ∧ (¬ (x2 < 0) → (((V a0 6) ≤ x2 → Q (some (vI (-1))) V) ∧ (¬ ((V a0 6) ≤ x2) → (((0 : Int) ≤ x2 ∧ x2 < (8 : Nat)) ∧ Q (some (vI (-1))) V)))))) ∧ (¬ (x1 < 0) → (((V a0 6) ≤ x1 → ((x2 < 0 → Q (some (vI (-1))) V) ∧ (¬ (x2 < 0) → (((V a0 6) ≤ x2 → Q (some (vI (-1))) V) ∧ (¬ ((V a0 6) ≤ x2) → (((0 : Int) ≤ x2 ∧ x2 < (8 : Nat)) ∧ Q (some (vI (-1))) V)))))) ∧ (¬ ((V a0 6) ≤ x1) → (((0 : Int) ≤ x1 ∧ x1 < (8 : Nat)) ∧ ((x2 < 0 → Q (some (vI (-1))) V) ∧ (¬ (x2 < 0) → (((V a0 6) ≤ x2 → Q (some (vI (-1))) V) ∧ (¬ ((V a0 6) ≤ x2) → (((0 : Int) ≤ x2 ∧ x2 < (8 : Nat)) ∧ ((¬ (V (a0 + 14 + 2 * Int.toNat x1) 2) = (V (a0 + 14 + 2 * Int.toNat x2) 2) → Q (some (vI (-1))) V) ∧ ((V (a0 + 14 + 2 * Int.toNat x1) 2) = (V (a0 + 14 + 2 * Int.toNat x2) 2) → (((V a0 6) < 8 → (((0 : Int) ≤ (V a0 6) ∧ (V a0 6) < (8 : Nat)) ∧ Mf K d mX2_join [vR 204, vR (a0 + 14 + 2 * Int.toNat x1), vR (a0 + 14 + 2 * Int.toNat x2), vR (a0 + 14 + 2 * Int.toNat (V a0 6))] V (fun r V26 => r = none ∧ Q (some (vI (w32 (((upm V26 a0 6 (w32 ((V26 a0 6) + 1))) a0 6) - 1)))) (upm V26 a0 6 (w32 ((V26 a0 6) + 1)))))) ∧ (¬ ((V a0 6) < 8) → Q (some (vI (-1))) V))))))))))))))) : Mf K (d + 1) mX7_combine [vR a0, vI x1, vI x2, vR 204] V Q := by
  refine Mt.of2 (L := [some (vR a0), some (vI x1), some (vI x2), some (vR 204), none, none, none]) pnX7 rfl rfl ?_
  refine wp_aload_n dX7_combine_0 rfl rfl ?_
  refine wp_iload_n dX7_combine_1 rfl rfl ?_
  refine wp_inlV (d' := d) (S := []) (as := [vI x1]) dX7_combine_2 lX7_75 (by omega) h0.1 rfl rfl (Nat.le_of_ble_eq_true rfl) ⟨Nat.le_refl _, Nat.le_refl _⟩ (Mt.of2 (L := [some (vR a0), some (vI x1)]) pnX7 rfl rfl ?_)
  refine wp_iload_n dX7_braidAt_0 rfl rfl ?_
  refine wp_if_lt (tgt := 21) dX7_braidAt_1 rfl (fun c1 => ?_) (fun c1 => ?_)
  ·
    refine wp_null dX7_braidAt_21 ?_
    refine wp_areturn dX7_braidAt_22 rfl ⟨rfl, rfl⟩ ?_
    show Wp _ _ _ _ _ 5 _ [vN] _ _ _ _ _
    refine wp_astoreN dX7_combine_5 (by decide) rfl ?_
    refine wp_aload_n dX7_combine_7 rfl rfl ?_
    refine wp_iload_n dX7_combine_8 rfl rfl ?_
    refine wp_inlV (d' := d) (S := []) (as := [vI x2]) dX7_combine_9 lX7_75 (by omega) h0.1 rfl rfl (Nat.le_of_ble_eq_true rfl) ⟨Nat.le_refl _, Nat.le_refl _⟩ (Mt.of2 (L := [some (vR a0), some (vI x2)]) pnX7 rfl rfl ?_)
    refine wp_iload_n dX7_braidAt_0 rfl rfl ?_
    refine wp_if_lt (tgt := 21) dX7_braidAt_1 rfl (fun c2 => ?_) (fun c2 => ?_)
    ·
      refine wp_null dX7_braidAt_21 ?_
      refine wp_areturn dX7_braidAt_22 rfl ⟨rfl, rfl⟩ ?_
      show Wp _ _ _ _ _ 12 _ [vN] _ _ _ _ _
      refine wp_astoreN dX7_combine_12 (by decide) rfl ?_
      refine wp_aloadN dX7_combine_14 rfl ?_
      refine wp_aloadN dX7_combine_16 rfl ?_
      refine wp_inlS (d' := d) (S := []) (as := [vN, vN]) dX7_combine_18 lX7_85 (by omega) rfl rfl (Nat.le_of_ble_eq_true rfl) ⟨Nat.le_refl _, Nat.le_refl _⟩ (Mt.of2 (L := [some vN, some vN]) pnX11 rfl rfl ?_)
      refine wp_aload_nN dX11_areAlike_0 rfl rfl ?_
      refine wp_ifnullN (tgt := 23) dX11_areAlike_1 rfl ?_
      refine wp_iconst dX11_areAlike_23 (by decide) ?_
      refine wp_zreturn dX11_areAlike_24 rfl ⟨rfl, rfl⟩ (by decide) ?_
      show Wp _ _ _ _ _ 21 _ [vI 0] _ _ _ _ _
      refine wp_if_eq (tgt := 33) dX7_combine_21 rfl (fun c3 => ?_) (fun c3 => False.elim (by revert c3; decide))
      refine wp_iconst dX7_combine_33 (by decide) ?_
      exact wp_ireturn dX7_combine_34 rfl ⟨rfl, rfl⟩ ⟨rfl, ((h.1 c1).1 c2)⟩
    ·
      refine wp_iload_n dX7_braidAt_4 rfl rfl ?_
      refine wp_aload_n dX7_braidAt_5 rfl rfl ?_
      refine wp_getI dX7_braidAt_6 fX7_40 rfl h0.1 (by decide) ?_
      refine wp_icmp_ge (tgt := 21) dX7_braidAt_9 rfl (fun c4 => ?_) (fun c4 => ?_)
      ·
        refine wp_null dX7_braidAt_21 ?_
        refine wp_areturn dX7_braidAt_22 rfl ⟨rfl, rfl⟩ ?_
        show Wp _ _ _ _ _ 12 _ [vN] _ _ _ _ _
        refine wp_astoreN dX7_combine_12 (by decide) rfl ?_
        refine wp_aloadN dX7_combine_14 rfl ?_
        refine wp_aloadN dX7_combine_16 rfl ?_
        refine wp_inlS (d' := d) (S := []) (as := [vN, vN]) dX7_combine_18 lX7_85 (by omega) rfl rfl (Nat.le_of_ble_eq_true rfl) ⟨Nat.le_refl _, Nat.le_refl _⟩ (Mt.of2 (L := [some vN, some vN]) pnX11 rfl rfl ?_)
        refine wp_aload_nN dX11_areAlike_0 rfl rfl ?_
        refine wp_ifnullN (tgt := 23) dX11_areAlike_1 rfl ?_
        refine wp_iconst dX11_areAlike_23 (by decide) ?_
        refine wp_zreturn dX11_areAlike_24 rfl ⟨rfl, rfl⟩ (by decide) ?_
        show Wp _ _ _ _ _ 21 _ [vI 0] _ _ _ _ _
        refine wp_if_eq (tgt := 33) dX7_combine_21 rfl (fun c5 => ?_) (fun c5 => False.elim (by revert c5; decide))
        refine wp_iconst dX7_combine_33 (by decide) ?_
        exact wp_ireturn dX7_combine_34 rfl ⟨rfl, rfl⟩ ⟨rfl, (((h.1 c1).2 c2).1 c4)⟩
      ·
        refine wp_aload_n dX7_braidAt_12 rfl rfl ?_
        refine wp_getR (b := (a0 + 2)) dX7_braidAt_13 fX7_19 rfl h0.1 (by decide) rfl ?_
        refine wp_iload_n dX7_braidAt_16 rfl rfl ?_
        have g6 : (0 : Int) ≤ x2 ∧ x2 < (8 : Nat) := (((h.1 c1).2 c2).2 c4).1
        refine wp_aald (b := (a0 + 14 + 2 * Int.toNat x2)) dX7_braidAt_17 h0.2.2.1 (by decide) g6 (ap_get (b := a0 + 14) (s := 2) (n := 8) g6) ?_
        refine wp_goto (tgt := 22) dX7_braidAt_18 rfl ?_
        refine wp_areturn dX7_braidAt_22 rfl ⟨rfl, rfl⟩ ?_
        show Wp _ _ _ _ _ 12 _ [vR (a0 + 14 + 2 * Int.toNat x2)] _ _ _ _ _
        refine wp_astore dX7_combine_12 (by decide) rfl ?_
        refine wp_aloadN dX7_combine_14 rfl ?_
        refine wp_aload dX7_combine_16 rfl ?_
        refine wp_inlS (d' := d) (S := []) (as := [vN, vR (a0 + 14 + 2 * Int.toNat x2)]) dX7_combine_18 lX7_85 (by omega) rfl rfl (Nat.le_of_ble_eq_true rfl) ⟨Nat.le_refl _, Nat.le_refl _⟩ (Mt.of2 (L := [some vN, some (vR (a0 + 14 + 2 * Int.toNat x2))]) pnX11 rfl rfl ?_)
        refine wp_aload_nN dX11_areAlike_0 rfl rfl ?_
        refine wp_ifnullN (tgt := 23) dX11_areAlike_1 rfl ?_
        refine wp_iconst dX11_areAlike_23 (by decide) ?_
        refine wp_zreturn dX11_areAlike_24 rfl ⟨rfl, rfl⟩ (by decide) ?_
        show Wp _ _ _ _ _ 21 _ [vI 0] _ _ _ _ _
        refine wp_if_eq (tgt := 33) dX7_combine_21 rfl (fun c7 => ?_) (fun c7 => False.elim (by revert c7; decide))
        refine wp_iconst dX7_combine_33 (by decide) ?_
        exact wp_ireturn dX7_combine_34 rfl ⟨rfl, rfl⟩ ⟨rfl, (((h.1 c1).2 c2).2 c4).2⟩
  ·
    refine wp_iload_n dX7_braidAt_4 rfl rfl ?_
    refine wp_aload_n dX7_braidAt_5 rfl rfl ?_
    refine wp_getI dX7_braidAt_6 fX7_40 rfl h0.1 (by decide) ?_
    refine wp_icmp_ge (tgt := 21) dX7_braidAt_9 rfl (fun c8 => ?_) (fun c8 => ?_)
    ·
      refine wp_null dX7_braidAt_21 ?_
      refine wp_areturn dX7_braidAt_22 rfl ⟨rfl, rfl⟩ ?_
      show Wp _ _ _ _ _ 5 _ [vN] _ _ _ _ _
      refine wp_astoreN dX7_combine_5 (by decide) rfl ?_
      refine wp_aload_n dX7_combine_7 rfl rfl ?_
      refine wp_iload_n dX7_combine_8 rfl rfl ?_
      refine wp_inlV (d' := d) (S := []) (as := [vI x2]) dX7_combine_9 lX7_75 (by omega) h0.1 rfl rfl (Nat.le_of_ble_eq_true rfl) ⟨Nat.le_refl _, Nat.le_refl _⟩ (Mt.of2 (L := [some (vR a0), some (vI x2)]) pnX7 rfl rfl ?_)
      refine wp_iload_n dX7_braidAt_0 rfl rfl ?_
      refine wp_if_lt (tgt := 21) dX7_braidAt_1 rfl (fun c9 => ?_) (fun c9 => ?_)
      ·
        refine wp_null dX7_braidAt_21 ?_
        refine wp_areturn dX7_braidAt_22 rfl ⟨rfl, rfl⟩ ?_
        show Wp _ _ _ _ _ 12 _ [vN] _ _ _ _ _
        refine wp_astoreN dX7_combine_12 (by decide) rfl ?_
        refine wp_aloadN dX7_combine_14 rfl ?_
        refine wp_aloadN dX7_combine_16 rfl ?_
        refine wp_inlS (d' := d) (S := []) (as := [vN, vN]) dX7_combine_18 lX7_85 (by omega) rfl rfl (Nat.le_of_ble_eq_true rfl) ⟨Nat.le_refl _, Nat.le_refl _⟩ (Mt.of2 (L := [some vN, some vN]) pnX11 rfl rfl ?_)
        refine wp_aload_nN dX11_areAlike_0 rfl rfl ?_
        refine wp_ifnullN (tgt := 23) dX11_areAlike_1 rfl ?_
        refine wp_iconst dX11_areAlike_23 (by decide) ?_
        refine wp_zreturn dX11_areAlike_24 rfl ⟨rfl, rfl⟩ (by decide) ?_
        show Wp _ _ _ _ _ 21 _ [vI 0] _ _ _ _ _
        refine wp_if_eq (tgt := 33) dX7_combine_21 rfl (fun c10 => ?_) (fun c10 => False.elim (by revert c10; decide))
        refine wp_iconst dX7_combine_33 (by decide) ?_
        exact wp_ireturn dX7_combine_34 rfl ⟨rfl, rfl⟩ ⟨rfl, (((h.2 c1).1 c8).1 c9)⟩
      ·
        refine wp_iload_n dX7_braidAt_4 rfl rfl ?_
        refine wp_aload_n dX7_braidAt_5 rfl rfl ?_
        refine wp_getI dX7_braidAt_6 fX7_40 rfl h0.1 (by decide) ?_
        refine wp_icmp_ge (tgt := 21) dX7_braidAt_9 rfl (fun c11 => ?_) (fun c11 => ?_)
        ·
          refine wp_null dX7_braidAt_21 ?_
          refine wp_areturn dX7_braidAt_22 rfl ⟨rfl, rfl⟩ ?_
          show Wp _ _ _ _ _ 12 _ [vN] _ _ _ _ _
          refine wp_astoreN dX7_combine_12 (by decide) rfl ?_
          refine wp_aloadN dX7_combine_14 rfl ?_
          refine wp_aloadN dX7_combine_16 rfl ?_
          refine wp_inlS (d' := d) (S := []) (as := [vN, vN]) dX7_combine_18 lX7_85 (by omega) rfl rfl (Nat.le_of_ble_eq_true rfl) ⟨Nat.le_refl _, Nat.le_refl _⟩ (Mt.of2 (L := [some vN, some vN]) pnX11 rfl rfl ?_)
          refine wp_aload_nN dX11_areAlike_0 rfl rfl ?_
          refine wp_ifnullN (tgt := 23) dX11_areAlike_1 rfl ?_
          refine wp_iconst dX11_areAlike_23 (by decide) ?_
          refine wp_zreturn dX11_areAlike_24 rfl ⟨rfl, rfl⟩ (by decide) ?_
          show Wp _ _ _ _ _ 21 _ [vI 0] _ _ _ _ _
          refine wp_if_eq (tgt := 33) dX7_combine_21 rfl (fun c12 => ?_) (fun c12 => False.elim (by revert c12; decide))
          refine wp_iconst dX7_combine_33 (by decide) ?_
          exact wp_ireturn dX7_combine_34 rfl ⟨rfl, rfl⟩ ⟨rfl, ((((h.2 c1).1 c8).2 c9).1 c11)⟩
        ·
          refine wp_aload_n dX7_braidAt_12 rfl rfl ?_
          refine wp_getR (b := (a0 + 2)) dX7_braidAt_13 fX7_19 rfl h0.1 (by decide) rfl ?_
          refine wp_iload_n dX7_braidAt_16 rfl rfl ?_
          have g13 : (0 : Int) ≤ x2 ∧ x2 < (8 : Nat) := ((((h.2 c1).1 c8).2 c9).2 c11).1
          refine wp_aald (b := (a0 + 14 + 2 * Int.toNat x2)) dX7_braidAt_17 h0.2.2.1 (by decide) g13 (ap_get (b := a0 + 14) (s := 2) (n := 8) g13) ?_
          refine wp_goto (tgt := 22) dX7_braidAt_18 rfl ?_
          refine wp_areturn dX7_braidAt_22 rfl ⟨rfl, rfl⟩ ?_
          show Wp _ _ _ _ _ 12 _ [vR (a0 + 14 + 2 * Int.toNat x2)] _ _ _ _ _
          refine wp_astore dX7_combine_12 (by decide) rfl ?_
          refine wp_aloadN dX7_combine_14 rfl ?_
          refine wp_aload dX7_combine_16 rfl ?_
          refine wp_inlS (d' := d) (S := []) (as := [vN, vR (a0 + 14 + 2 * Int.toNat x2)]) dX7_combine_18 lX7_85 (by omega) rfl rfl (Nat.le_of_ble_eq_true rfl) ⟨Nat.le_refl _, Nat.le_refl _⟩ (Mt.of2 (L := [some vN, some (vR (a0 + 14 + 2 * Int.toNat x2))]) pnX11 rfl rfl ?_)
          refine wp_aload_nN dX11_areAlike_0 rfl rfl ?_
          refine wp_ifnullN (tgt := 23) dX11_areAlike_1 rfl ?_
          refine wp_iconst dX11_areAlike_23 (by decide) ?_
          refine wp_zreturn dX11_areAlike_24 rfl ⟨rfl, rfl⟩ (by decide) ?_
          show Wp _ _ _ _ _ 21 _ [vI 0] _ _ _ _ _
          refine wp_if_eq (tgt := 33) dX7_combine_21 rfl (fun c14 => ?_) (fun c14 => False.elim (by revert c14; decide))
          refine wp_iconst dX7_combine_33 (by decide) ?_
          exact wp_ireturn dX7_combine_34 rfl ⟨rfl, rfl⟩ ⟨rfl, ((((h.2 c1).1 c8).2 c9).2 c11).2⟩
    ·
      refine wp_aload_n dX7_braidAt_12 rfl rfl ?_
      refine wp_getR (b := (a0 + 2)) dX7_braidAt_13 fX7_19 rfl h0.1 (by decide) rfl ?_
      refine wp_iload_n dX7_braidAt_16 rfl rfl ?_
      have g15 : (0 : Int) ≤ x1 ∧ x1 < (8 : Nat) := ((h.2 c1).2 c8).1
      refine wp_aald (b := (a0 + 14 + 2 * Int.toNat x1)) dX7_braidAt_17 h0.2.2.1 (by decide) g15 (ap_get (b := a0 + 14) (s := 2) (n := 8) g15) ?_
      refine wp_goto (tgt := 22) dX7_braidAt_18 rfl ?_
      refine wp_areturn dX7_braidAt_22 rfl ⟨rfl, rfl⟩ ?_
      show Wp _ _ _ _ _ 5 _ [vR (a0 + 14 + 2 * Int.toNat x1)] _ _ _ _ _
      refine wp_astore dX7_combine_5 (by decide) rfl ?_
      refine wp_aload_n dX7_combine_7 rfl rfl ?_
      refine wp_iload_n dX7_combine_8 rfl rfl ?_
      refine wp_inlV (d' := d) (S := []) (as := [vI x2]) dX7_combine_9 lX7_75 (by omega) h0.1 rfl rfl (Nat.le_of_ble_eq_true rfl) ⟨Nat.le_refl _, Nat.le_refl _⟩ (Mt.of2 (L := [some (vR a0), some (vI x2)]) pnX7 rfl rfl ?_)
      refine wp_iload_n dX7_braidAt_0 rfl rfl ?_
      refine wp_if_lt (tgt := 21) dX7_braidAt_1 rfl (fun c16 => ?_) (fun c16 => ?_)
      ·
        refine wp_null dX7_braidAt_21 ?_
        refine wp_areturn dX7_braidAt_22 rfl ⟨rfl, rfl⟩ ?_
        show Wp _ _ _ _ _ 12 _ [vN] _ _ _ _ _
        refine wp_astoreN dX7_combine_12 (by decide) rfl ?_
        refine wp_aload dX7_combine_14 rfl ?_
        refine wp_aloadN dX7_combine_16 rfl ?_
        refine wp_inlS (d' := d) (S := []) (as := [vR (a0 + 14 + 2 * Int.toNat x1), vN]) dX7_combine_18 lX7_85 (by omega) rfl rfl (Nat.le_of_ble_eq_true rfl) ⟨Nat.le_refl _, Nat.le_refl _⟩ (Mt.of2 (L := [some (vR (a0 + 14 + 2 * Int.toNat x1)), some vN]) pnX11 rfl rfl ?_)
        refine wp_aload_n dX11_areAlike_0 rfl rfl ?_
        refine wp_ifnull dX11_areAlike_1 ?_
        refine wp_aload_nN dX11_areAlike_4 rfl rfl ?_
        refine wp_ifnullN (tgt := 23) dX11_areAlike_5 rfl ?_
        refine wp_iconst dX11_areAlike_23 (by decide) ?_
        refine wp_zreturn dX11_areAlike_24 rfl ⟨rfl, rfl⟩ (by decide) ?_
        show Wp _ _ _ _ _ 21 _ [vI 0] _ _ _ _ _
        refine wp_if_eq (tgt := 33) dX7_combine_21 rfl (fun c17 => ?_) (fun c17 => False.elim (by revert c17; decide))
        refine wp_iconst dX7_combine_33 (by decide) ?_
        exact wp_ireturn dX7_combine_34 rfl ⟨rfl, rfl⟩ ⟨rfl, (((h.2 c1).2 c8).2.1 c16)⟩
      ·
        refine wp_iload_n dX7_braidAt_4 rfl rfl ?_
        refine wp_aload_n dX7_braidAt_5 rfl rfl ?_
        refine wp_getI dX7_braidAt_6 fX7_40 rfl h0.1 (by decide) ?_
        refine wp_icmp_ge (tgt := 21) dX7_braidAt_9 rfl (fun c18 => ?_) (fun c18 => ?_)
        ·
          refine wp_null dX7_braidAt_21 ?_
          refine wp_areturn dX7_braidAt_22 rfl ⟨rfl, rfl⟩ ?_
          show Wp _ _ _ _ _ 12 _ [vN] _ _ _ _ _
          refine wp_astoreN dX7_combine_12 (by decide) rfl ?_
          refine wp_aload dX7_combine_14 rfl ?_
          refine wp_aloadN dX7_combine_16 rfl ?_
          refine wp_inlS (d' := d) (S := []) (as := [vR (a0 + 14 + 2 * Int.toNat x1), vN]) dX7_combine_18 lX7_85 (by omega) rfl rfl (Nat.le_of_ble_eq_true rfl) ⟨Nat.le_refl _, Nat.le_refl _⟩ (Mt.of2 (L := [some (vR (a0 + 14 + 2 * Int.toNat x1)), some vN]) pnX11 rfl rfl ?_)
          refine wp_aload_n dX11_areAlike_0 rfl rfl ?_
          refine wp_ifnull dX11_areAlike_1 ?_
          refine wp_aload_nN dX11_areAlike_4 rfl rfl ?_
          refine wp_ifnullN (tgt := 23) dX11_areAlike_5 rfl ?_
          refine wp_iconst dX11_areAlike_23 (by decide) ?_
          refine wp_zreturn dX11_areAlike_24 rfl ⟨rfl, rfl⟩ (by decide) ?_
          show Wp _ _ _ _ _ 21 _ [vI 0] _ _ _ _ _
          refine wp_if_eq (tgt := 33) dX7_combine_21 rfl (fun c19 => ?_) (fun c19 => False.elim (by revert c19; decide))
          refine wp_iconst dX7_combine_33 (by decide) ?_
          exact wp_ireturn dX7_combine_34 rfl ⟨rfl, rfl⟩ ⟨rfl, ((((h.2 c1).2 c8).2.2 c16).1 c18)⟩
        ·
          refine wp_aload_n dX7_braidAt_12 rfl rfl ?_
          refine wp_getR (b := (a0 + 2)) dX7_braidAt_13 fX7_19 rfl h0.1 (by decide) rfl ?_
          refine wp_iload_n dX7_braidAt_16 rfl rfl ?_
          have g20 : (0 : Int) ≤ x2 ∧ x2 < (8 : Nat) := ((((h.2 c1).2 c8).2.2 c16).2 c18).1
          refine wp_aald (b := (a0 + 14 + 2 * Int.toNat x2)) dX7_braidAt_17 h0.2.2.1 (by decide) g20 (ap_get (b := a0 + 14) (s := 2) (n := 8) g20) ?_
          refine wp_goto (tgt := 22) dX7_braidAt_18 rfl ?_
          refine wp_areturn dX7_braidAt_22 rfl ⟨rfl, rfl⟩ ?_
          show Wp _ _ _ _ _ 12 _ [vR (a0 + 14 + 2 * Int.toNat x2)] _ _ _ _ _
          refine wp_astore dX7_combine_12 (by decide) rfl ?_
          refine wp_aload dX7_combine_14 rfl ?_
          refine wp_aload dX7_combine_16 rfl ?_
          refine wp_inlS (d' := d) (S := []) (as := [vR (a0 + 14 + 2 * Int.toNat x1), vR (a0 + 14 + 2 * Int.toNat x2)]) dX7_combine_18 lX7_85 (by omega) rfl rfl (Nat.le_of_ble_eq_true rfl) ⟨Nat.le_refl _, Nat.le_refl _⟩ (Mt.of2 (L := [some (vR (a0 + 14 + 2 * Int.toNat x1)), some (vR (a0 + 14 + 2 * Int.toNat x2))]) pnX11 rfl rfl ?_)
          refine wp_aload_n dX11_areAlike_0 rfl rfl ?_
          refine wp_ifnull dX11_areAlike_1 ?_
          refine wp_aload_n dX11_areAlike_4 rfl rfl ?_
          refine wp_ifnull dX11_areAlike_5 ?_
          refine wp_aload_n dX11_areAlike_8 rfl rfl ?_
          refine wp_getI dX11_areAlike_9 fX11_182 rfl (IsStore.braid h0 g15).1 (by decide) ?_
          refine wp_aload_n dX11_areAlike_12 rfl rfl ?_
          refine wp_getI dX11_areAlike_13 fX11_182 rfl (IsStore.braid h0 g20).1 (by decide) ?_
          refine wp_icmp_ne (tgt := 23) dX11_areAlike_16 rfl (fun c21 => ?_) (fun c21 => ?_)
          ·
            refine wp_iconst dX11_areAlike_23 (by decide) ?_
            refine wp_zreturn dX11_areAlike_24 rfl ⟨rfl, rfl⟩ (by decide) ?_
            show Wp _ _ _ _ _ 21 _ [vI 0] _ _ _ _ _
            refine wp_if_eq (tgt := 33) dX7_combine_21 rfl (fun c22 => ?_) (fun c22 => False.elim (by revert c22; decide))
            refine wp_iconst dX7_combine_33 (by decide) ?_
            exact wp_ireturn dX7_combine_34 rfl ⟨rfl, rfl⟩ ⟨rfl, (((((h.2 c1).2 c8).2.2 c16).2 c18).2.1 c21)⟩
          ·
            refine wp_iconst dX11_areAlike_19 (by decide) ?_
            refine wp_goto (tgt := 24) dX11_areAlike_20 rfl ?_
            refine wp_zreturn dX11_areAlike_24 rfl ⟨rfl, rfl⟩ (by decide) ?_
            show Wp _ _ _ _ _ 21 _ [vI 1] _ _ _ _ _
            refine wp_if_eq (tgt := 33) dX7_combine_21 rfl (fun c23 => False.elim (by revert c23; decide)) (fun c23 => ?_)
            refine wp_aload_n dX7_combine_24 rfl rfl ?_
            refine wp_getI dX7_combine_25 fX7_40 rfl h0.1 (by decide) ?_
            refine wp_bipush dX7_combine_28 (by decide) ?_
            refine wp_icmp_lt (tgt := 35) dX7_combine_30 rfl (fun c24 => ?_) (fun c24 => ?_)
            ·
              refine wp_aload_n dX7_combine_35 rfl rfl ?_
              refine wp_getR (b := (a0 + 2)) dX7_combine_36 fX7_19 rfl h0.1 (by decide) rfl ?_
              refine wp_aload_n dX7_combine_39 rfl rfl ?_
              refine wp_getI dX7_combine_40 fX7_40 rfl h0.1 (by decide) ?_
              have g25 : (0 : Int) ≤ (V a0 6) ∧ (V a0 6) < (8 : Nat) := ((((((h.2 c1).2 c8).2.2 c16).2 c18).2.2 c21).1 c24).1
              refine wp_aald (b := (a0 + 14 + 2 * Int.toNat (V a0 6))) dX7_combine_43 h0.2.2.1 (by decide) g25 (ap_get (b := a0 + 14) (s := 2) (n := 8) g25) ?_
              refine wp_astore dX7_combine_44 (by decide) rfl ?_
              refine wp_aload_n dX7_combine_46 rfl rfl ?_
              refine wp_aload dX7_combine_47 rfl ?_
              refine wp_aload dX7_combine_49 rfl ?_
              refine wp_aload dX7_combine_51 rfl ?_
              refine wp_callV (S := []) (as := [vR (a0 + 14 + 2 * Int.toNat x1), vR (a0 + 14 + 2 * Int.toNat x2), vR (a0 + 14 + 2 * Int.toNat (V a0 6))]) dX7_combine_53 lX7_89 (((((((h.2 c1).2 c8).2.2 c16).2 c18).2.2 c21).1 c24).2) (by omega) sh204 rfl rfl (Nat.le_of_ble_eq_true rfl) ⟨Nat.le_refl _, Nat.le_refl _⟩ ?_
              rintro _ _ V26 ⟨rfl, rfl, q26⟩
              show Wp _ _ _ _ _ 56 _ [] _ _ _ _ _
              refine wp_aload_n dX7_combine_56 rfl rfl ?_
              refine wp_dup dX7_combine_57 rfl ?_
              refine wp_getI dX7_combine_58 fX7_40 rfl h0.1 (by decide) ?_
              refine wp_iconst dX7_combine_61 (by decide) ?_
              refine wp_iadd dX7_combine_62 ?_
              refine wp_putI dX7_combine_63 fwX7_40 rfl h0.1 (by decide) ?_
              refine wp_aload_n dX7_combine_66 rfl rfl ?_
              refine wp_getI dX7_combine_67 fX7_40 rfl h0.1 (by decide) ?_
              refine wp_iconst dX7_combine_70 (by decide) ?_
              refine wp_isub dX7_combine_71 ?_
              exact wp_ireturn dX7_combine_72 rfl ⟨rfl, rfl⟩ ⟨rfl, q26⟩
            ·
              refine wp_iconst dX7_combine_33 (by decide) ?_
              exact wp_ireturn dX7_combine_34 rfl ⟨rfl, rfl⟩ ⟨rfl, ((((((h.2 c1).2 c8).2.2 c16).2 c18).2.2 c21).2 c24)⟩
set_option maxHeartbeats 4000000 in
set_option maxRecDepth 10000 in
theorem sX7_dropBraid {K : KK} {d : Nat} {V : Mem} {Q : Option AV → Mem → Prop} (a0 : Nat) (h0 : IsStore a0) (h : (((V a0 6) ≤ 0 → Q none V) ∧ (¬ ((V a0 6) ≤ 0) → Q none (upm V a0 6 (w32 ((V a0 6) - 1)))))) : Mf K d mX7_dropBraid [vR a0] V Q := by
  refine Mt.of2 (L := [some (vR a0)]) pnX7 rfl rfl ?_
  refine wp_aload_n dX7_dropBraid_0 rfl rfl ?_
  refine wp_getI dX7_dropBraid_1 fX7_40 rfl h0.1 (by decide) ?_
  refine wp_if_le (tgt := 17) dX7_dropBraid_4 rfl (fun c1 => ?_) (fun c1 => ?_)
  ·
    exact wp_return dX7_dropBraid_17 rfl ⟨rfl, rfl⟩ ⟨rfl, (h.1 c1)⟩
  ·
    refine wp_aload_n dX7_dropBraid_7 rfl rfl ?_
    refine wp_dup dX7_dropBraid_8 rfl ?_
    refine wp_getI dX7_dropBraid_9 fX7_40 rfl h0.1 (by decide) ?_
    refine wp_iconst dX7_dropBraid_12 (by decide) ?_
    refine wp_isub dX7_dropBraid_13 ?_
    refine wp_putI dX7_dropBraid_14 fwX7_40 rfl h0.1 (by decide) ?_
    exact wp_return dX7_dropBraid_17 rfl ⟨rfl, rfl⟩ ⟨rfl, (h.2 c1)⟩
set_option maxHeartbeats 4000000 in
set_option maxRecDepth 10000 in
theorem sX7_addSeen {K : KK} {d : Nat} {V : Mem} {Q : Option AV → Mem → Prop} (a0 : Nat) (x1 : Int) (x2 : Int) (x3 : Int) (h0 : IsStore a0) (h : (((V a0 7) < 8 → (((0 : Int) ≤ (V a0 7) ∧ (V a0 7) < (8 : Nat)) ∧ (((0 : Int) ≤ ((upm V (a0 + 3) (Int.toNat (V a0 7)) x1) a0 7) ∧ ((upm V (a0 + 3) (Int.toNat (V a0 7)) x1) a0 7) < (8 : Nat)) ∧ (((0 : Int) ≤ ((upm (upm V (a0 + 3) (Int.toNat (V a0 7)) x1) (a0 + 4) (Int.toNat ((upm V (a0 + 3) (Int.toNat (V a0 7)) x1) a0 7)) x2) a0 7) ∧ ((upm (upm V (a0 + 3) (Int.toNat (V a0 7)) x1) (a0 + 4) (Int.toNat ((upm V (a0 + 3) (Int.toNat (V a0 7)) x1) a0 7)) x2) a0 7) < (8 : Nat)) ∧ (x3 = 0 ∨ x3 = 1) ∧ Q (some (vI 1)) (upm (upm (upm (upm V (a0 + 3) (Int.toNat (V a0 7)) x1) (a0 + 4) (Int.toNat ((upm V (a0 + 3) (Int.toNat (V a0 7)) x1) a0 7)) x2) (a0 + 5) (Int.toNat ((upm (upm V (a0 + 3) (Int.toNat (V a0 7)) x1) (a0 + 4) (Int.toNat ((upm V (a0 + 3) (Int.toNat (V a0 7)) x1) a0 7)) x2) a0 7)) x3) a0 7 (w32 (((upm (upm (upm V (a0 + 3) (Int.toNat (V a0 7)) x1) (a0 + 4) (Int.toNat ((upm V (a0 + 3) (Int.toNat (V a0 7)) x1) a0 7)) x2) (a0 + 5) (Int.toNat ((upm (upm V (a0 + 3) (Int.toNat (V a0 7)) x1) (a0 + 4) (Int.toNat ((upm V (a0 + 3) (Int.toNat (V a0 7)) x1) a0 7)) x2) a0 7)) x3) a0 7) + 1))))))) ∧ (¬ ((V a0 7) < 8) → Q (some (vI 0)) V))) : Mf K d mX7_addSeen [vR a0, vI x1, vI x2, vI x3] V Q := by
  refine Mt.of2 (L := [some (vR a0), some (vI x1), some (vI x2), some (vI x3)]) pnX7 rfl rfl ?_
  refine wp_aload_n dX7_addSeen_0 rfl rfl ?_
  refine wp_getI dX7_addSeen_1 fX7_43 rfl h0.1 (by decide) ?_
  refine wp_bipush dX7_addSeen_4 (by decide) ?_
  refine wp_icmp_lt (tgt := 11) dX7_addSeen_6 rfl (fun c1 => ?_) (fun c1 => ?_)
  ·
    refine wp_aload_n dX7_addSeen_11 rfl rfl ?_
    refine wp_getR (b := (a0 + 3)) dX7_addSeen_12 fX7_23 rfl h0.1 (by decide) rfl ?_
    refine wp_aload_n dX7_addSeen_15 rfl rfl ?_
    refine wp_getI dX7_addSeen_16 fX7_43 rfl h0.1 (by decide) ?_
    refine wp_iload_n dX7_addSeen_19 rfl rfl ?_
    refine wp_iast dX7_addSeen_20 h0.2.2.2.1 (h.1 c1).1 ?_
    refine wp_aload_n dX7_addSeen_21 rfl rfl ?_
    refine wp_getR (b := (a0 + 4)) dX7_addSeen_22 fX7_27 rfl h0.1 (by decide) rfl ?_
    refine wp_aload_n dX7_addSeen_25 rfl rfl ?_
    refine wp_getI dX7_addSeen_26 fX7_43 rfl h0.1 (by decide) ?_
    refine wp_iload_n dX7_addSeen_29 rfl rfl ?_
    refine wp_iast dX7_addSeen_30 h0.2.2.2.2.1 (h.1 c1).2.1 ?_
    refine wp_aload_n dX7_addSeen_31 rfl rfl ?_
    refine wp_getR (b := (a0 + 5)) dX7_addSeen_32 fX7_30 rfl h0.1 (by decide) rfl ?_
    refine wp_aload_n dX7_addSeen_35 rfl rfl ?_
    refine wp_getI dX7_addSeen_36 fX7_43 rfl h0.1 (by decide) ?_
    refine wp_iload_n dX7_addSeen_39 rfl rfl ?_
    refine wp_zast dX7_addSeen_40 h0.2.2.2.2.2.1 (h.1 c1).2.2.1 (h.1 c1).2.2.2.1 ?_
    refine wp_aload_n dX7_addSeen_41 rfl rfl ?_
    refine wp_dup dX7_addSeen_42 rfl ?_
    refine wp_getI dX7_addSeen_43 fX7_43 rfl h0.1 (by decide) ?_
    refine wp_iconst dX7_addSeen_46 (by decide) ?_
    refine wp_iadd dX7_addSeen_47 ?_
    refine wp_putI dX7_addSeen_48 fwX7_43 rfl h0.1 (by decide) ?_
    refine wp_iconst dX7_addSeen_51 (by decide) ?_
    exact wp_zreturn dX7_addSeen_52 rfl ⟨rfl, rfl⟩ (by decide) ⟨rfl, (h.1 c1).2.2.2.2⟩
  ·
    refine wp_iconst dX7_addSeen_9 (by decide) ?_
    exact wp_zreturn dX7_addSeen_10 rfl ⟨rfl, rfl⟩ (by decide) ⟨rfl, (h.2 c1)⟩
set_option maxHeartbeats 4000000 in
set_option maxRecDepth 10000 in
theorem sX7_agrees {K : KK} {d : Nat} {V : Mem} {Q : Option AV → Mem → Prop} (a0 : Nat) (x1 : Int) (x2 : Int) (h0 : IsStore a0) (h : Wf K d mX7_agrees 2 [some (vR a0), some (vI x1), some (vI x2), some (vI 0)] [] V Q) : Mf K d mX7_agrees [vR a0, vI x1, vI x2] V Q := by
  refine Mt.of2 (L := [some (vR a0), some (vI x1), some (vI x2), none]) pnX7 rfl rfl ?_
  refine wp_iconst dX7_agrees_0 (by decide) ?_
  refine wp_istore_n dX7_agrees_1 rfl (by decide) rfl ?_
  exact h
set_option maxHeartbeats 4000000 in
set_option maxRecDepth 10000 in
theorem sX7_agrees_2 {K : KK} {d : Nat} {V : Mem} {Q : Option AV → Mem → Prop} (a0 : Nat) (x1 : Int) (x2 : Int) (x3 : Int) (h0 : IsStore a0) (h : (((V a0 7) ≤ x3 → Q (some (vI 1)) V) ∧ (¬ ((V a0 7) ≤ x3) → (((0 : Int) ≤ x3 ∧ x3 < (8 : Nat)) ∧ ((¬ (V (a0 + 3) (Int.toNat x3)) = x1 → Wf K d mX7_agrees 2 [some (vR a0), some (vI x1), some (vI x2), some (vI (w32 (x3 + 1)))] [] V Q) ∧ ((V (a0 + 3) (Int.toNat x3)) = x1 → (((0 : Int) ≤ x3 ∧ x3 < (8 : Nat)) ∧ (((0 : Int) ≤ x3 ∧ x3 < (8 : Nat)) ∧ ((x2 < (V (a0 + 4) (Int.toNat x3)) → (((V (a0 + 5) (Int.toNat x3)) = 0 → Wf K d mX7_agrees 2 [some (vR a0), some (vI x1), some (vI x2), some (vI (w32 (x3 + 1)))] [] V Q) ∧ (¬ ((V (a0 + 5) (Int.toNat x3)) = 0) → Q (some (vI 0)) V))) ∧ (¬ (x2 < (V (a0 + 4) (Int.toNat x3))) → (((V (a0 + 5) (Int.toNat x3)) = 1 → Wf K d mX7_agrees 2 [some (vR a0), some (vI x1), some (vI x2), some (vI (w32 (x3 + 1)))] [] V Q) ∧ (¬ ((V (a0 + 5) (Int.toNat x3)) = 1) → Q (some (vI 0)) V)))))))))))) : Wf K d mX7_agrees 2 [some (vR a0), some (vI x1), some (vI x2), some (vI x3)] [] V Q := by
  refine wp_iload_n dX7_agrees_2 rfl rfl ?_
  refine wp_aload_n dX7_agrees_3 rfl rfl ?_
  refine wp_getI dX7_agrees_4 fX7_43 rfl h0.1 (by decide) ?_
  refine wp_icmp_ge (tgt := 52) dX7_agrees_7 rfl (fun c1 => ?_) (fun c1 => ?_)
  ·
    refine wp_iconst dX7_agrees_52 (by decide) ?_
    exact wp_zreturn dX7_agrees_53 rfl ⟨rfl, rfl⟩ (by decide) ⟨rfl, (h.1 c1)⟩
  ·
    refine wp_aload_n dX7_agrees_10 rfl rfl ?_
    refine wp_getR (b := (a0 + 3)) dX7_agrees_11 fX7_23 rfl h0.1 (by decide) rfl ?_
    refine wp_iload_n dX7_agrees_14 rfl rfl ?_
    refine wp_iald dX7_agrees_15 h0.2.2.2.1 (h.2 c1).1 ?_
    refine wp_iload_n dX7_agrees_16 rfl rfl ?_
    refine wp_icmp_ne (tgt := 46) dX7_agrees_17 rfl (fun c2 => ?_) (fun c2 => ?_)
    ·
      refine wp_iinc dX7_agrees_46 rfl rfl ?_
      refine wp_goto (tgt := 2) dX7_agrees_49 rfl ?_
      exact ((h.2 c1).2.1 c2)
    ·
      refine wp_aload_n dX7_agrees_20 rfl rfl ?_
      refine wp_getR (b := (a0 + 5)) dX7_agrees_21 fX7_30 rfl h0.1 (by decide) rfl ?_
      refine wp_iload_n dX7_agrees_24 rfl rfl ?_
      refine wp_zald dX7_agrees_25 h0.2.2.2.2.2.1 ((h.2 c1).2.2 c2).1 ?_
      refine wp_iload_n dX7_agrees_26 rfl rfl ?_
      refine wp_aload_n dX7_agrees_27 rfl rfl ?_
      refine wp_getR (b := (a0 + 4)) dX7_agrees_28 fX7_27 rfl h0.1 (by decide) rfl ?_
      refine wp_iload_n dX7_agrees_31 rfl rfl ?_
      refine wp_iald dX7_agrees_32 h0.2.2.2.2.1 ((h.2 c1).2.2 c2).2.1 ?_
      refine wp_icmp_lt (tgt := 40) dX7_agrees_33 rfl (fun c3 => ?_) (fun c3 => ?_)
      ·
        refine wp_iconst dX7_agrees_40 (by decide) ?_
        refine wp_icmp_eq (tgt := 46) dX7_agrees_41 rfl (fun c4 => ?_) (fun c4 => ?_)
        ·
          refine wp_iinc dX7_agrees_46 rfl rfl ?_
          refine wp_goto (tgt := 2) dX7_agrees_49 rfl ?_
          exact ((((h.2 c1).2.2 c2).2.2.1 c3).1 c4)
        ·
          refine wp_iconst dX7_agrees_44 (by decide) ?_
          exact wp_zreturn dX7_agrees_45 rfl ⟨rfl, rfl⟩ (by decide) ⟨rfl, ((((h.2 c1).2.2 c2).2.2.1 c3).2 c4)⟩
      ·
        refine wp_iconst dX7_agrees_36 (by decide) ?_
        refine wp_goto (tgt := 41) dX7_agrees_37 rfl ?_
        refine wp_icmp_eq (tgt := 46) dX7_agrees_41 rfl (fun c5 => ?_) (fun c5 => ?_)
        ·
          refine wp_iinc dX7_agrees_46 rfl rfl ?_
          refine wp_goto (tgt := 2) dX7_agrees_49 rfl ?_
          exact ((((h.2 c1).2.2 c2).2.2.2 c3).1 c5)
        ·
          refine wp_iconst dX7_agrees_44 (by decide) ?_
          exact wp_zreturn dX7_agrees_45 rfl ⟨rfl, rfl⟩ (by decide) ⟨rfl, ((((h.2 c1).2.2 c2).2.2.2 c3).2 c5)⟩
set_option maxHeartbeats 4000000 in
set_option maxRecDepth 10000 in
theorem sX9_put {K : KK} {d : Nat} {V : Mem} {Q : Option AV → Mem → Prop} (j1 : Int) (h : Wf K d mX9_put 3 [some (vR 1), some (vJ j1), none, some (vI 56), none, none] [] V Q) : Mf K d mX9_put [vR 1, vJ j1] V Q := by
  refine Mt.of2 (L := [some (vR 1), some (vJ j1), none, none, none, none]) pnX9 rfl rfl ?_
  refine wp_bipush dX9_put_0 (by decide) ?_
  refine wp_istore_n dX9_put_2 rfl (by decide) rfl ?_
  exact h
set_option maxHeartbeats 4000000 in
set_option maxRecDepth 10000 in
theorem sX9_put_3 {K : KK} {d : Nat} {V : Mem} {Q : Option AV → Mem → Prop} (j1 : Int) (x3 : Int) (h : ((x3 < 0 → Q none V) ∧ (¬ (x3 < 0) → (((b_iand (w32 (b_lushr j1 x3)) 255) = 10 → (((V 1 2) < 0 → Wf K d mX9_put 3 [some (vR 1), some (vJ j1), none, some (vI (w32 (x3 + (-8)))), none, none] [] V Q) ∧ (¬ ((V 1 2) < 0) → ((1000 ≤ (V 1 2) → Wf K d mX9_put 3 [some (vR 1), some (vJ j1), none, some (vI (w32 (x3 + (-8)))), none, none] [] V Q) ∧ (¬ (1000 ≤ (V 1 2)) → (((0 : Int) ≤ (V 1 2) ∧ (V 1 2) < (1000 : Nat)) ∧ ((0 : Int) ≤ (b_i2c (b_iand (w32 (b_lushr j1 x3)) 255)) ∧ (b_i2c (b_iand (w32 (b_lushr j1 x3)) 255)) < 65536) ∧ Wf K d mX9_put 3 [some (vR 1), some (vJ j1), none, some (vI (w32 (x3 + (-8)))), none, none] [] (upm (upm V 2 (Int.toNat (V 1 2)) (b_i2c (b_iand (w32 (b_lushr j1 x3)) 255))) 1 2 (w32 (((upm V 2 (Int.toNat (V 1 2)) (b_i2c (b_iand (w32 (b_lushr j1 x3)) 255))) 1 2) + 1))) Q)))))) ∧ (¬ ((b_iand (w32 (b_lushr j1 x3)) 255) = 10) → (((b_iand (w32 (b_lushr j1 x3)) 255) < 32 → Wf K d mX9_put 3 [some (vR 1), some (vJ j1), none, some (vI (w32 (x3 + (-8)))), none, none] [] V Q) ∧ (¬ ((b_iand (w32 (b_lushr j1 x3)) 255) < 32) → ((126 < (b_iand (w32 (b_lushr j1 x3)) 255) → Wf K d mX9_put 3 [some (vR 1), some (vJ j1), none, some (vI (w32 (x3 + (-8)))), none, none] [] V Q) ∧ (¬ (126 < (b_iand (w32 (b_lushr j1 x3)) 255)) → (((V 1 2) < 0 → Wf K d mX9_put 3 [some (vR 1), some (vJ j1), none, some (vI (w32 (x3 + (-8)))), none, none] [] V Q) ∧ (¬ ((V 1 2) < 0) → ((1000 ≤ (V 1 2) → Wf K d mX9_put 3 [some (vR 1), some (vJ j1), none, some (vI (w32 (x3 + (-8)))), none, none] [] V Q) ∧ (¬ (1000 ≤ (V 1 2)) → (((0 : Int) ≤ (V 1 2) ∧ (V 1 2) < (1000 : Nat)) ∧ ((0 : Int) ≤ (b_i2c (b_iand (w32 (b_lushr j1 x3)) 255)) ∧ (b_i2c (b_iand (w32 (b_lushr j1 x3)) 255)) < 65536) ∧ Wf K d mX9_put 3 [some (vR 1), some (vJ j1), none, some (vI (w32 (x3 + (-8)))), none, none] [] (upm (upm V 2 (Int.toNat (V 1 2)) (b_i2c (b_iand (w32 (b_lushr j1 x3)) 255))) 1 2 (w32 (((upm V 2 (Int.toNat (V 1 2)) (b_i2c (b_iand (w32 (b_lushr j1 x3)) 255))) 1 2) + 1))) Q)))))))))))))) : Wf K d mX9_put 3 [some (vR 1), some (vJ j1), none, some (vI x3), none, none] [] V Q := by
  refine wp_iload_n dX9_put_3 rfl rfl ?_
  refine wp_if_lt (tgt := 97) dX9_put_4 rfl (fun c1 => ?_) (fun c1 => ?_)
  ·
    exact wp_return dX9_put_97 rfl ⟨rfl, rfl⟩ ⟨rfl, (h.1 c1)⟩
  ·
    refine wp_lload_n dX9_put_7 rfl rfl ?_
    refine wp_iload_n dX9_put_8 rfl rfl ?_
    refine wp_lushr dX9_put_9 ?_
    refine wp_l2i dX9_put_10 ?_
    refine wp_sipush dX9_put_11 (by decide) ?_
    refine wp_iand dX9_put_14 ?_
    refine wp_istore dX9_put_15 (by decide) rfl ?_
    refine wp_iload dX9_put_17 rfl ?_
    refine wp_bipush dX9_put_19 (by decide) ?_
    refine wp_icmp_eq (tgt := 38) dX9_put_21 rfl (fun c2 => ?_) (fun c2 => ?_)
    ·
      refine wp_iconst dX9_put_38 (by decide) ?_
      refine wp_goto (tgt := 43) dX9_put_39 rfl ?_
      refine wp_istore dX9_put_43 (by decide) rfl ?_
      refine wp_iload dX9_put_45 rfl ?_
      refine wp_if_eq (tgt := 91) dX9_put_47 rfl (fun c3 => False.elim (by revert c3; decide)) (fun c3 => ?_)
      refine wp_aload_n dX9_put_50 rfl rfl ?_
      refine wp_getI dX9_put_51 fX9_35 rfl sh1 (by decide) ?_
      refine wp_if_lt (tgt := 91) dX9_put_54 rfl (fun c4 => ?_) (fun c4 => ?_)
      ·
        refine wp_iinc dX9_put_91 rfl rfl ?_
        refine wp_goto (tgt := 3) dX9_put_94 rfl ?_
        exact wp_loc (L2 := [some (vR 1), some (vJ j1), none, some (vI (w32 (x3 + (-8)))), none, none]) ⟨rfl, ⟨rfl, ⟨rfl, trivial⟩⟩⟩ (((h.2 c1).1 c2).1 c4)
      ·
        refine wp_aload_n dX9_put_57 rfl rfl ?_
        refine wp_getI dX9_put_58 fX9_35 rfl sh1 (by decide) ?_
        refine wp_aload_n dX9_put_61 rfl rfl ?_
        refine wp_getR (b := 2) dX9_put_62 fX9_9 rfl sh1 (by decide) rfl ?_
        refine wp_alen dX9_put_65 sh2 (by decide) (by decide) ?_
        refine wp_icmp_ge (tgt := 91) dX9_put_66 rfl (fun c5 => ?_) (fun c5 => ?_)
        ·
          refine wp_iinc dX9_put_91 rfl rfl ?_
          refine wp_goto (tgt := 3) dX9_put_94 rfl ?_
          exact wp_loc (L2 := [some (vR 1), some (vJ j1), none, some (vI (w32 (x3 + (-8)))), none, none]) ⟨rfl, ⟨rfl, ⟨rfl, trivial⟩⟩⟩ ((((h.2 c1).1 c2).2 c4).1 c5)
        ·
          refine wp_aload_n dX9_put_69 rfl rfl ?_
          refine wp_getR (b := 2) dX9_put_70 fX9_9 rfl sh1 (by decide) rfl ?_
          refine wp_aload_n dX9_put_73 rfl rfl ?_
          refine wp_getI dX9_put_74 fX9_35 rfl sh1 (by decide) ?_
          refine wp_iload dX9_put_77 rfl ?_
          refine wp_i2c dX9_put_79 ?_
          refine wp_cast dX9_put_80 sh2 ((((h.2 c1).1 c2).2 c4).2 c5).1 ((((h.2 c1).1 c2).2 c4).2 c5).2.1 ?_
          refine wp_aload_n dX9_put_81 rfl rfl ?_
          refine wp_dup dX9_put_82 rfl ?_
          refine wp_getI dX9_put_83 fX9_35 rfl sh1 (by decide) ?_
          refine wp_iconst dX9_put_86 (by decide) ?_
          refine wp_iadd dX9_put_87 ?_
          refine wp_putI dX9_put_88 fwX9_35 rfl sh1 (by decide) ?_
          refine wp_iinc dX9_put_91 rfl rfl ?_
          refine wp_goto (tgt := 3) dX9_put_94 rfl ?_
          exact wp_loc (L2 := [some (vR 1), some (vJ j1), none, some (vI (w32 (x3 + (-8)))), none, none]) ⟨rfl, ⟨rfl, ⟨rfl, trivial⟩⟩⟩ ((((h.2 c1).1 c2).2 c4).2 c5).2.2
    ·
      refine wp_iload dX9_put_24 rfl ?_
      refine wp_bipush dX9_put_26 (by decide) ?_
      refine wp_icmp_lt (tgt := 42) dX9_put_28 rfl (fun c6 => ?_) (fun c6 => ?_)
      ·
        refine wp_iconst dX9_put_42 (by decide) ?_
        refine wp_istore dX9_put_43 (by decide) rfl ?_
        refine wp_iload dX9_put_45 rfl ?_
        refine wp_if_eq (tgt := 91) dX9_put_47 rfl (fun c7 => ?_) (fun c7 => False.elim (by revert c7; decide))
        refine wp_iinc dX9_put_91 rfl rfl ?_
        refine wp_goto (tgt := 3) dX9_put_94 rfl ?_
        exact wp_loc (L2 := [some (vR 1), some (vJ j1), none, some (vI (w32 (x3 + (-8)))), none, none]) ⟨rfl, ⟨rfl, ⟨rfl, trivial⟩⟩⟩ (((h.2 c1).2 c2).1 c6)
      ·
        refine wp_iload dX9_put_31 rfl ?_
        refine wp_bipush dX9_put_33 (by decide) ?_
        refine wp_icmp_gt (tgt := 42) dX9_put_35 rfl (fun c8 => ?_) (fun c8 => ?_)
        ·
          refine wp_iconst dX9_put_42 (by decide) ?_
          refine wp_istore dX9_put_43 (by decide) rfl ?_
          refine wp_iload dX9_put_45 rfl ?_
          refine wp_if_eq (tgt := 91) dX9_put_47 rfl (fun c9 => ?_) (fun c9 => False.elim (by revert c9; decide))
          refine wp_iinc dX9_put_91 rfl rfl ?_
          refine wp_goto (tgt := 3) dX9_put_94 rfl ?_
          exact wp_loc (L2 := [some (vR 1), some (vJ j1), none, some (vI (w32 (x3 + (-8)))), none, none]) ⟨rfl, ⟨rfl, ⟨rfl, trivial⟩⟩⟩ ((((h.2 c1).2 c2).2 c6).1 c8)
        ·
          refine wp_iconst dX9_put_38 (by decide) ?_
          refine wp_goto (tgt := 43) dX9_put_39 rfl ?_
          refine wp_istore dX9_put_43 (by decide) rfl ?_
          refine wp_iload dX9_put_45 rfl ?_
          refine wp_if_eq (tgt := 91) dX9_put_47 rfl (fun c10 => False.elim (by revert c10; decide)) (fun c10 => ?_)
          refine wp_aload_n dX9_put_50 rfl rfl ?_
          refine wp_getI dX9_put_51 fX9_35 rfl sh1 (by decide) ?_
          refine wp_if_lt (tgt := 91) dX9_put_54 rfl (fun c11 => ?_) (fun c11 => ?_)
          ·
            refine wp_iinc dX9_put_91 rfl rfl ?_
            refine wp_goto (tgt := 3) dX9_put_94 rfl ?_
            exact wp_loc (L2 := [some (vR 1), some (vJ j1), none, some (vI (w32 (x3 + (-8)))), none, none]) ⟨rfl, ⟨rfl, ⟨rfl, trivial⟩⟩⟩ (((((h.2 c1).2 c2).2 c6).2 c8).1 c11)
          ·
            refine wp_aload_n dX9_put_57 rfl rfl ?_
            refine wp_getI dX9_put_58 fX9_35 rfl sh1 (by decide) ?_
            refine wp_aload_n dX9_put_61 rfl rfl ?_
            refine wp_getR (b := 2) dX9_put_62 fX9_9 rfl sh1 (by decide) rfl ?_
            refine wp_alen dX9_put_65 sh2 (by decide) (by decide) ?_
            refine wp_icmp_ge (tgt := 91) dX9_put_66 rfl (fun c12 => ?_) (fun c12 => ?_)
            ·
              refine wp_iinc dX9_put_91 rfl rfl ?_
              refine wp_goto (tgt := 3) dX9_put_94 rfl ?_
              exact wp_loc (L2 := [some (vR 1), some (vJ j1), none, some (vI (w32 (x3 + (-8)))), none, none]) ⟨rfl, ⟨rfl, ⟨rfl, trivial⟩⟩⟩ ((((((h.2 c1).2 c2).2 c6).2 c8).2 c11).1 c12)
            ·
              refine wp_aload_n dX9_put_69 rfl rfl ?_
              refine wp_getR (b := 2) dX9_put_70 fX9_9 rfl sh1 (by decide) rfl ?_
              refine wp_aload_n dX9_put_73 rfl rfl ?_
              refine wp_getI dX9_put_74 fX9_35 rfl sh1 (by decide) ?_
              refine wp_iload dX9_put_77 rfl ?_
              refine wp_i2c dX9_put_79 ?_
              refine wp_cast dX9_put_80 sh2 ((((((h.2 c1).2 c2).2 c6).2 c8).2 c11).2 c12).1 ((((((h.2 c1).2 c2).2 c6).2 c8).2 c11).2 c12).2.1 ?_
              refine wp_aload_n dX9_put_81 rfl rfl ?_
              refine wp_dup dX9_put_82 rfl ?_
              refine wp_getI dX9_put_83 fX9_35 rfl sh1 (by decide) ?_
              refine wp_iconst dX9_put_86 (by decide) ?_
              refine wp_iadd dX9_put_87 ?_
              refine wp_putI dX9_put_88 fwX9_35 rfl sh1 (by decide) ?_
              refine wp_iinc dX9_put_91 rfl rfl ?_
              refine wp_goto (tgt := 3) dX9_put_94 rfl ?_
              exact wp_loc (L2 := [some (vR 1), some (vJ j1), none, some (vI (w32 (x3 + (-8)))), none, none]) ⟨rfl, ⟨rfl, ⟨rfl, trivial⟩⟩⟩ ((((((h.2 c1).2 c2).2 c6).2 c8).2 c11).2 c12).2.2
set_option maxHeartbeats 4000000 in
set_option maxRecDepth 10000 in
theorem sX9_wipe {K : KK} {d : Nat} {V : Mem} {Q : Option AV → Mem → Prop}  (h : Q none (upm (upm V 1 2 0) 1 3 0)) : Mf K d mX9_wipe [vR 1] V Q := by
  refine Mt.of2 (L := [some (vR 1)]) pnX9 rfl rfl ?_
  refine wp_aload_n dX9_wipe_0 rfl rfl ?_
  refine wp_iconst dX9_wipe_1 (by decide) ?_
  refine wp_putI dX9_wipe_2 fwX9_35 rfl sh1 (by decide) ?_
  refine wp_aload_n dX9_wipe_5 rfl rfl ?_
  refine wp_iconst dX9_wipe_6 (by decide) ?_
  refine wp_putI dX9_wipe_7 fwX9_38 rfl sh1 (by decide) ?_
  exact wp_return dX9_wipe_10 rfl ⟨rfl, rfl⟩ ⟨rfl, h⟩
set_option maxHeartbeats 4000000 in
set_option maxRecDepth 10000 in
theorem sX9_advance {K : KK} {d : Nat} {V : Mem} {Q : Option AV → Mem → Prop}  (h : (((V 1 2) ≤ (V 1 3) → Wf K (d + 1) mX9_advance 52 [some (vR 1)] [] V Q) ∧ (¬ ((V 1 2) ≤ (V 1 3)) → (((0 : Int) ≤ (V 1 3) ∧ (V 1 3) < (1000 : Nat)) ∧ (((V 2 (Int.toNat (V 1 3))) = 32 → Wf K (d + 1) mX9_advance 39 [some (vR 1)] [] V Q) ∧ (¬ ((V 2 (Int.toNat (V 1 3))) = 32) → (((0 : Int) ≤ (V 1 3) ∧ (V 1 3) < (1000 : Nat)) ∧ ((¬ (V 2 (Int.toNat (V 1 3))) = 10 → Wf K (d + 1) mX9_advance 52 [some (vR 1)] [] V Q) ∧ ((V 2 (Int.toNat (V 1 3))) = 10 → Wf K (d + 1) mX9_advance 39 [some (vR 1)] [] V Q))))))))) : Mf K (d + 1) mX9_advance [vR 1] V Q := by
  refine Mt.of2 (L := [some (vR 1)]) pnX9 rfl rfl ?_
  refine wp_aload_n dX9_advance_0 rfl rfl ?_
  refine wp_getI dX9_advance_1 fX9_38 rfl sh1 (by decide) ?_
  refine wp_aload_n dX9_advance_4 rfl rfl ?_
  refine wp_getI dX9_advance_5 fX9_35 rfl sh1 (by decide) ?_
  refine wp_icmp_ge (tgt := 52) dX9_advance_8 rfl (fun c1 => ?_) (fun c1 => ?_)
  ·
    exact (h.1 c1)
  ·
    refine wp_aload_n dX9_advance_11 rfl rfl ?_
    refine wp_getR (b := 2) dX9_advance_12 fX9_9 rfl sh1 (by decide) rfl ?_
    refine wp_aload_n dX9_advance_15 rfl rfl ?_
    refine wp_getI dX9_advance_16 fX9_38 rfl sh1 (by decide) ?_
    refine wp_cald dX9_advance_19 sh2 (h.2 c1).1 ?_
    refine wp_bipush dX9_advance_20 (by decide) ?_
    refine wp_icmp_eq (tgt := 39) dX9_advance_22 rfl (fun c2 => ?_) (fun c2 => ?_)
    ·
      exact ((h.2 c1).2.1 c2)
    ·
      refine wp_aload_n dX9_advance_25 rfl rfl ?_
      refine wp_getR (b := 2) dX9_advance_26 fX9_9 rfl sh1 (by decide) rfl ?_
      refine wp_aload_n dX9_advance_29 rfl rfl ?_
      refine wp_getI dX9_advance_30 fX9_38 rfl sh1 (by decide) ?_
      refine wp_cald dX9_advance_33 sh2 ((h.2 c1).2.2 c2).1 ?_
      refine wp_bipush dX9_advance_34 (by decide) ?_
      refine wp_icmp_ne (tgt := 52) dX9_advance_36 rfl (fun c3 => ?_) (fun c3 => ?_)
      ·
        exact (((h.2 c1).2.2 c2).2.1 c3)
      ·
        exact (((h.2 c1).2.2 c2).2.2 c3)
set_option maxHeartbeats 4000000 in
set_option maxRecDepth 10000 in
theorem sX9_advance_52 {K : KK} {d : Nat} {V : Mem} {Q : Option AV → Mem → Prop}  (h : ((((upm (upm (upm (upm V 1 5 (V 1 3)) 1 6 0) 1 7 0) 1 8 0) 1 3) < ((upm (upm (upm (upm V 1 5 (V 1 3)) 1 6 0) 1 7 0) 1 8 0) 1 2) → (((0 : Int) ≤ ((upm (upm (upm (upm V 1 5 (V 1 3)) 1 6 0) 1 7 0) 1 8 0) 1 3) ∧ ((upm (upm (upm (upm V 1 5 (V 1 3)) 1 6 0) 1 7 0) 1 8 0) 1 3) < (1000 : Nat)) ∧ Mf K d mX9_isLetter [vI ((upm (upm (upm (upm V 1 5 (V 1 3)) 1 6 0) 1 7 0) 1 8 0) 2 (Int.toNat ((upm (upm (upm (upm V 1 5 (V 1 3)) 1 6 0) 1 7 0) 1 8 0) 1 3)))] (upm (upm (upm (upm V 1 5 (V 1 3)) 1 6 0) 1 7 0) 1 8 0) (fun r V2 => ∃ z2, r = some (vI z2) ∧ ((z2 = 0 → (((0 : Int) ≤ (V2 1 3) ∧ (V2 1 3) < (1000 : Nat)) ∧ Mf K d mX9_isDigit [vI (V2 2 (Int.toNat (V2 1 3)))] V2 (fun r V4 => ∃ z4, r = some (vI z4) ∧ ((z4 = 0 → Mf K d mX9_takeSign [vR 1] V4 (fun r V6 => r = none ∧ Q none V6)) ∧ (¬ (z4 = 0) → Mf K d mX9_takeNumber [vR 1] V4 (fun r V7 => r = none ∧ Q none V7)))))) ∧ (¬ (z2 = 0) → Mf K d mX9_takeWord [vR 1] V2 (fun r V8 => r = none ∧ Q none V8)))))) ∧ (¬ (((upm (upm (upm (upm V 1 5 (V 1 3)) 1 6 0) 1 7 0) 1 8 0) 1 3) < ((upm (upm (upm (upm V 1 5 (V 1 3)) 1 6 0) 1 7 0) 1 8 0) 1 2)) → Q none (upm (upm (upm (upm (upm V 1 5 (V 1 3)) 1 6 0) 1 7 0) 1 8 0) 1 4 0)))) : Wf K (d + 1) mX9_advance 52 [some (vR 1)] [] V Q := by
  refine wp_aload_n dX9_advance_52 rfl rfl ?_
  refine wp_aload_n dX9_advance_53 rfl rfl ?_
  refine wp_getI dX9_advance_54 fX9_38 rfl sh1 (by decide) ?_
  refine wp_putI dX9_advance_57 fwX9_41 rfl sh1 (by decide) ?_
  refine wp_aload_n dX9_advance_60 rfl rfl ?_
  refine wp_iconst dX9_advance_61 (by decide) ?_
  refine wp_putI dX9_advance_62 fwX9_44 rfl sh1 (by decide) ?_
  refine wp_aload_n dX9_advance_65 rfl rfl ?_
  refine wp_iconst dX9_advance_66 (by decide) ?_
  refine wp_putI dX9_advance_67 fwX9_47 rfl sh1 (by decide) ?_
  refine wp_aload_n dX9_advance_70 rfl rfl ?_
  refine wp_lconst dX9_advance_71 rfl ?_
  refine wp_putJ dX9_advance_72 fwX9_50 rfl sh1 (by decide) ?_
  refine wp_aload_n dX9_advance_75 rfl rfl ?_
  refine wp_getI dX9_advance_76 fX9_38 rfl sh1 (by decide) ?_
  refine wp_aload_n dX9_advance_79 rfl rfl ?_
  refine wp_getI dX9_advance_80 fX9_35 rfl sh1 (by decide) ?_
  refine wp_icmp_lt (tgt := 94) dX9_advance_83 rfl (fun c1 => ?_) (fun c1 => ?_)
  ·
    refine wp_aload_n dX9_advance_94 rfl rfl ?_
    refine wp_getR (b := 2) dX9_advance_95 fX9_9 rfl sh1 (by decide) rfl ?_
    refine wp_aload_n dX9_advance_98 rfl rfl ?_
    refine wp_getI dX9_advance_99 fX9_38 rfl sh1 (by decide) ?_
    refine wp_cald dX9_advance_102 sh2 (h.1 c1).1 ?_
    refine wp_callS (S := []) (as := [vI ((upm (upm (upm (upm V 1 5 (V 1 3)) 1 6 0) 1 7 0) 1 8 0) 2 (Int.toNat ((upm (upm (upm (upm V 1 5 (V 1 3)) 1 6 0) 1 7 0) 1 8 0) 1 3)))]) dX9_advance_103 lX9_57 ((h.1 c1).2) (by omega) rfl rfl (Nat.le_of_ble_eq_true rfl) ⟨Nat.le_refl _, Nat.le_refl _⟩ ?_
    rintro _ _ V2 ⟨rfl, z2, rfl, q2⟩
    show Wp _ _ _ _ _ 106 _ [vI z2] _ _ _ _ _
    refine wp_if_eq (tgt := 116) dX9_advance_106 rfl (fun c3 => ?_) (fun c3 => ?_)
    ·
      refine wp_aload_n dX9_advance_116 rfl rfl ?_
      refine wp_getR (b := 2) dX9_advance_117 fX9_9 rfl sh1 (by decide) rfl ?_
      refine wp_aload_n dX9_advance_120 rfl rfl ?_
      refine wp_getI dX9_advance_121 fX9_38 rfl sh1 (by decide) ?_
      refine wp_cald dX9_advance_124 sh2 (q2.1 c3).1 ?_
      refine wp_callS (S := []) (as := [vI (V2 2 (Int.toNat (V2 1 3)))]) dX9_advance_125 lX9_64 ((q2.1 c3).2) (by omega) rfl rfl (Nat.le_of_ble_eq_true rfl) ⟨Nat.le_refl _, Nat.le_refl _⟩ ?_
      rintro _ _ V4 ⟨rfl, z4, rfl, q4⟩
      show Wp _ _ _ _ _ 128 _ [vI z4] _ _ _ _ _
      refine wp_if_eq (tgt := 138) dX9_advance_128 rfl (fun c5 => ?_) (fun c5 => ?_)
      ·
        refine wp_aload_n dX9_advance_138 rfl rfl ?_
        refine wp_callV (S := []) (as := []) dX9_advance_139 lX9_70 ((q4.1 c5)) (by omega) sh1 rfl rfl (Nat.le_of_ble_eq_true rfl) ⟨Nat.le_refl _, Nat.le_refl _⟩ ?_
        rintro _ _ V6 ⟨rfl, rfl, q6⟩
        show Wp _ _ _ _ _ 142 _ [] _ _ _ _ _
        exact wp_return dX9_advance_142 rfl ⟨rfl, rfl⟩ ⟨rfl, q6⟩
      ·
        refine wp_aload_n dX9_advance_131 rfl rfl ?_
        refine wp_callV (S := []) (as := []) dX9_advance_132 lX9_67 ((q4.2 c5)) (by omega) sh1 rfl rfl (Nat.le_of_ble_eq_true rfl) ⟨Nat.le_refl _, Nat.le_refl _⟩ ?_
        rintro _ _ V7 ⟨rfl, rfl, q7⟩
        show Wp _ _ _ _ _ 135 _ [] _ _ _ _ _
        refine wp_goto (tgt := 142) dX9_advance_135 rfl ?_
        exact wp_return dX9_advance_142 rfl ⟨rfl, rfl⟩ ⟨rfl, q7⟩
    ·
      refine wp_aload_n dX9_advance_109 rfl rfl ?_
      refine wp_callV (S := []) (as := []) dX9_advance_110 lX9_61 ((q2.2 c3)) (by omega) sh1 rfl rfl (Nat.le_of_ble_eq_true rfl) ⟨Nat.le_refl _, Nat.le_refl _⟩ ?_
      rintro _ _ V8 ⟨rfl, rfl, q8⟩
      show Wp _ _ _ _ _ 113 _ [] _ _ _ _ _
      refine wp_goto (tgt := 142) dX9_advance_113 rfl ?_
      exact wp_return dX9_advance_142 rfl ⟨rfl, rfl⟩ ⟨rfl, q8⟩
  ·
    refine wp_aload_n dX9_advance_86 rfl rfl ?_
    refine wp_iconst dX9_advance_87 (by decide) ?_
    refine wp_putI dX9_advance_88 fwX9_54 rfl sh1 (by decide) ?_
    refine wp_goto (tgt := 142) dX9_advance_91 rfl ?_
    exact wp_return dX9_advance_142 rfl ⟨rfl, rfl⟩ ⟨rfl, (h.2 c1)⟩
set_option maxHeartbeats 4000000 in
set_option maxRecDepth 10000 in
theorem sX9_advance_39 {K : KK} {d : Nat} {V : Mem} {Q : Option AV → Mem → Prop}  (h : Wf K (d + 1) mX9_advance 0 [some (vR 1)] [] (upm V 1 3 (w32 ((V 1 3) + 1))) Q) : Wf K (d + 1) mX9_advance 39 [some (vR 1)] [] V Q := by
  refine wp_aload_n dX9_advance_39 rfl rfl ?_
  refine wp_dup dX9_advance_40 rfl ?_
  refine wp_getI dX9_advance_41 fX9_38 rfl sh1 (by decide) ?_
  refine wp_iconst dX9_advance_44 (by decide) ?_
  refine wp_iadd dX9_advance_45 ?_
  refine wp_putI dX9_advance_46 fwX9_38 rfl sh1 (by decide) ?_
  refine wp_goto (tgt := 0) dX9_advance_49 rfl ?_
  exact h
set_option maxHeartbeats 4000000 in
set_option maxRecDepth 10000 in
theorem sX9_advance_0 {K : KK} {d : Nat} {V : Mem} {Q : Option AV → Mem → Prop}  (h : (((V 1 2) ≤ (V 1 3) → Wf K (d + 1) mX9_advance 52 [some (vR 1)] [] V Q) ∧ (¬ ((V 1 2) ≤ (V 1 3)) → (((0 : Int) ≤ (V 1 3) ∧ (V 1 3) < (1000 : Nat)) ∧ (((V 2 (Int.toNat (V 1 3))) = 32 → Wf K (d + 1) mX9_advance 39 [some (vR 1)] [] V Q) ∧ (¬ ((V 2 (Int.toNat (V 1 3))) = 32) → (((0 : Int) ≤ (V 1 3) ∧ (V 1 3) < (1000 : Nat)) ∧ ((¬ (V 2 (Int.toNat (V 1 3))) = 10 → Wf K (d + 1) mX9_advance 52 [some (vR 1)] [] V Q) ∧ ((V 2 (Int.toNat (V 1 3))) = 10 → Wf K (d + 1) mX9_advance 39 [some (vR 1)] [] V Q))))))))) : Wf K (d + 1) mX9_advance 0 [some (vR 1)] [] V Q := by
  refine wp_aload_n dX9_advance_0 rfl rfl ?_
  refine wp_getI dX9_advance_1 fX9_38 rfl sh1 (by decide) ?_
  refine wp_aload_n dX9_advance_4 rfl rfl ?_
  refine wp_getI dX9_advance_5 fX9_35 rfl sh1 (by decide) ?_
  refine wp_icmp_ge (tgt := 52) dX9_advance_8 rfl (fun c1 => ?_) (fun c1 => ?_)
  ·
    exact (h.1 c1)
  ·
    refine wp_aload_n dX9_advance_11 rfl rfl ?_
    refine wp_getR (b := 2) dX9_advance_12 fX9_9 rfl sh1 (by decide) rfl ?_
    refine wp_aload_n dX9_advance_15 rfl rfl ?_
    refine wp_getI dX9_advance_16 fX9_38 rfl sh1 (by decide) ?_
    refine wp_cald dX9_advance_19 sh2 (h.2 c1).1 ?_
    refine wp_bipush dX9_advance_20 (by decide) ?_
    refine wp_icmp_eq (tgt := 39) dX9_advance_22 rfl (fun c2 => ?_) (fun c2 => ?_)
    ·
      exact ((h.2 c1).2.1 c2)
    ·
      refine wp_aload_n dX9_advance_25 rfl rfl ?_
      refine wp_getR (b := 2) dX9_advance_26 fX9_9 rfl sh1 (by decide) rfl ?_
      refine wp_aload_n dX9_advance_29 rfl rfl ?_
      refine wp_getI dX9_advance_30 fX9_38 rfl sh1 (by decide) ?_
      refine wp_cald dX9_advance_33 sh2 ((h.2 c1).2.2 c2).1 ?_
      refine wp_bipush dX9_advance_34 (by decide) ?_
      refine wp_icmp_ne (tgt := 52) dX9_advance_36 rfl (fun c3 => ?_) (fun c3 => ?_)
      ·
        exact (((h.2 c1).2.2 c2).2.1 c3)
      ·
        exact (((h.2 c1).2.2 c2).2.2 c3)
set_option maxHeartbeats 4000000 in
set_option maxRecDepth 10000 in
theorem sX9_isName {K : KK} {d : Nat} {V : Mem} {Q : Option AV → Mem → Prop}  (h : ((¬ (V 1 4) = 2 → Q (some (vI 0)) V) ∧ ((V 1 4) = 2 → (((V 1 7) < 128 → Q (some (vI 1)) V) ∧ (¬ ((V 1 7) < 128) → (((V 1 7) ≤ 142 → Q (some (vI 0)) V) ∧ (¬ ((V 1 7) ≤ 142) → Q (some (vI 1)) V))))))) : Mf K d mX9_isName [vR 1] V Q := by
  refine Mt.of2 (L := [some (vR 1)]) pnX9 rfl rfl ?_
  refine wp_aload_n dX9_isName_0 rfl rfl ?_
  refine wp_getI dX9_isName_1 fX9_54 rfl sh1 (by decide) ?_
  refine wp_iconst dX9_isName_4 (by decide) ?_
  refine wp_icmp_ne (tgt := 32) dX9_isName_5 rfl (fun c1 => ?_) (fun c1 => ?_)
  ·
    refine wp_iconst dX9_isName_32 (by decide) ?_
    exact wp_zreturn dX9_isName_33 rfl ⟨rfl, rfl⟩ (by decide) ⟨rfl, (h.1 c1)⟩
  ·
    refine wp_aload_n dX9_isName_8 rfl rfl ?_
    refine wp_getI dX9_isName_9 fX9_47 rfl sh1 (by decide) ?_
    refine wp_sipush dX9_isName_12 (by decide) ?_
    refine wp_icmp_lt (tgt := 28) dX9_isName_15 rfl (fun c2 => ?_) (fun c2 => ?_)
    ·
      refine wp_iconst dX9_isName_28 (by decide) ?_
      refine wp_goto (tgt := 33) dX9_isName_29 rfl ?_
      exact wp_zreturn dX9_isName_33 rfl ⟨rfl, rfl⟩ (by decide) ⟨rfl, ((h.2 c1).1 c2)⟩
    ·
      refine wp_aload_n dX9_isName_18 rfl rfl ?_
      refine wp_getI dX9_isName_19 fX9_47 rfl sh1 (by decide) ?_
      refine wp_sipush dX9_isName_22 (by decide) ?_
      refine wp_icmp_le (tgt := 32) dX9_isName_25 rfl (fun c3 => ?_) (fun c3 => ?_)
      ·
        refine wp_iconst dX9_isName_32 (by decide) ?_
        exact wp_zreturn dX9_isName_33 rfl ⟨rfl, rfl⟩ (by decide) ⟨rfl, (((h.2 c1).2 c2).1 c3)⟩
      ·
        refine wp_iconst dX9_isName_28 (by decide) ?_
        refine wp_goto (tgt := 33) dX9_isName_29 rfl ?_
        exact wp_zreturn dX9_isName_33 rfl ⟨rfl, rfl⟩ (by decide) ⟨rfl, (((h.2 c1).2 c2).2 c3)⟩
set_option maxHeartbeats 4000000 in
set_option maxRecDepth 10000 in
theorem sX9_takeWord {K : KK} {d : Nat} {V : Mem} {Q : Option AV → Mem → Prop}  (h : (((V 1 2) ≤ (V 1 3) → Wf K (d + 1) mX9_takeWord 59 [some (vR 1), none] [] V Q) ∧ (¬ ((V 1 2) ≤ (V 1 3)) → (((0 : Int) ≤ (V 1 3) ∧ (V 1 3) < (1000 : Nat)) ∧ Mf K d mX9_isLetter [vI (V 2 (Int.toNat (V 1 3)))] V (fun r V2 => ∃ z2, r = some (vI z2) ∧ ((z2 = 0 → Wf K (d + 1) mX9_takeWord 59 [some (vR 1), none] [] V2 Q) ∧ (¬ (z2 = 0) → (((0 : Int) ≤ (V2 1 3) ∧ (V2 1 3) < (1000 : Nat)) ∧ Wf K (d + 1) mX9_takeWord 0 [some (vR 1), none] [] (upm (upm V2 1 8 (w64 ((w64 ((V2 1 8) * 32)) + (w32 ((w32 ((V2 2 (Int.toNat (V2 1 3))) - 97)) + 1))))) 1 3 (w32 (((upm V2 1 8 (w64 ((w64 ((V2 1 8) * 32)) + (w32 ((w32 ((V2 2 (Int.toNat (V2 1 3))) - 97)) + 1))))) 1 3) + 1))) Q)))))))) : Mf K (d + 1) mX9_takeWord [vR 1] V Q := by
  refine Mt.of2 (L := [some (vR 1), none]) pnX9 rfl rfl ?_
  refine wp_aload_n dX9_takeWord_0 rfl rfl ?_
  refine wp_getI dX9_takeWord_1 fX9_38 rfl sh1 (by decide) ?_
  refine wp_aload_n dX9_takeWord_4 rfl rfl ?_
  refine wp_getI dX9_takeWord_5 fX9_35 rfl sh1 (by decide) ?_
  refine wp_icmp_ge (tgt := 59) dX9_takeWord_8 rfl (fun c1 => ?_) (fun c1 => ?_)
  ·
    exact (h.1 c1)
  ·
    refine wp_aload_n dX9_takeWord_11 rfl rfl ?_
    refine wp_getR (b := 2) dX9_takeWord_12 fX9_9 rfl sh1 (by decide) rfl ?_
    refine wp_aload_n dX9_takeWord_15 rfl rfl ?_
    refine wp_getI dX9_takeWord_16 fX9_38 rfl sh1 (by decide) ?_
    refine wp_cald dX9_takeWord_19 sh2 (h.2 c1).1 ?_
    refine wp_callS (S := []) (as := [vI (V 2 (Int.toNat (V 1 3)))]) dX9_takeWord_20 lX9_57 ((h.2 c1).2) (by omega) rfl rfl (Nat.le_of_ble_eq_true rfl) ⟨Nat.le_refl _, Nat.le_refl _⟩ ?_
    rintro _ _ V2 ⟨rfl, z2, rfl, q2⟩
    show Wp _ _ _ _ _ 23 _ [vI z2] _ _ _ _ _
    refine wp_if_eq (tgt := 59) dX9_takeWord_23 rfl (fun c3 => ?_) (fun c3 => ?_)
    ·
      exact (q2.1 c3)
    ·
      refine wp_aload_n dX9_takeWord_26 rfl rfl ?_
      refine wp_aload_n dX9_takeWord_27 rfl rfl ?_
      refine wp_getJ dX9_takeWord_28 fX9_50 rfl sh1 (by decide) ?_
      refine wp_aload_n dX9_takeWord_31 rfl rfl ?_
      refine wp_getR (b := 2) dX9_takeWord_32 fX9_9 rfl sh1 (by decide) rfl ?_
      refine wp_aload_n dX9_takeWord_35 rfl rfl ?_
      refine wp_getI dX9_takeWord_36 fX9_38 rfl sh1 (by decide) ?_
      refine wp_cald dX9_takeWord_39 sh2 (q2.2 c3).1 ?_
      refine wp_inlS (d' := d) (S := [vR 1]) (as := [vJ (V2 1 8), vI (V2 2 (Int.toNat (V2 1 3)))]) dX9_takeWord_40 lX9_31 (by omega) rfl rfl (Nat.le_of_ble_eq_true rfl) ⟨Nat.le_refl _, Nat.le_refl _⟩ (Mt.of2 (L := [some (vJ (V2 1 8)), none, some (vI (V2 2 (Int.toNat (V2 1 3))))]) pnX9 rfl rfl ?_)
      refine wp_lload_n dX9_withLetter_0 rfl rfl ?_
      refine wp_ldc2 (z := 32) dX9_withLetter_1 kX9_79 (by decide) ?_
      refine wp_lmul dX9_withLetter_4 ?_
      refine wp_iload_n dX9_withLetter_5 rfl rfl ?_
      refine wp_bipush dX9_withLetter_6 (by decide) ?_
      refine wp_isub dX9_withLetter_8 ?_
      refine wp_iconst dX9_withLetter_9 (by decide) ?_
      refine wp_iadd dX9_withLetter_10 ?_
      refine wp_i2l dX9_withLetter_11 ?_
      refine wp_ladd dX9_withLetter_12 ?_
      refine wp_lreturn dX9_withLetter_13 rfl ⟨rfl, rfl⟩ ?_
      show Wp _ _ _ _ _ 43 _ [vJ (w64 ((w64 ((V2 1 8) * 32)) + (w32 ((w32 ((V2 2 (Int.toNat (V2 1 3))) - 97)) + 1)))), vR 1] _ _ _ _ _
      refine wp_putJ dX9_takeWord_43 fwX9_50 rfl sh1 (by decide) ?_
      refine wp_aload_n dX9_takeWord_46 rfl rfl ?_
      refine wp_dup dX9_takeWord_47 rfl ?_
      refine wp_getI dX9_takeWord_48 fX9_38 rfl sh1 (by decide) ?_
      refine wp_iconst dX9_takeWord_51 (by decide) ?_
      refine wp_iadd dX9_takeWord_52 ?_
      refine wp_putI dX9_takeWord_53 fwX9_38 rfl sh1 (by decide) ?_
      refine wp_goto (tgt := 0) dX9_takeWord_56 rfl ?_
      exact (q2.2 c3).2
set_option maxHeartbeats 4000000 in
set_option maxRecDepth 10000 in
theorem sX9_takeWord_59 {K : KK} {d : Nat} {V : Mem} {Q : Option AV → Mem → Prop}  (h : ((8 < (w32 ((V 1 3) - (V 1 5))) → Wf K (d + 1) mX9_takeWord 79 [some (vR 1), none] [vI 1, vR 1] V Q) ∧ (¬ (8 < (w32 ((V 1 3) - (V 1 5)))) → Wf K (d + 1) mX9_takeWord 79 [some (vR 1), none] [vI 2, vR 1] V Q))) : Wf K (d + 1) mX9_takeWord 59 [some (vR 1), none] [] V Q := by
  refine wp_aload_n dX9_takeWord_59 rfl rfl ?_
  refine wp_aload_n dX9_takeWord_60 rfl rfl ?_
  refine wp_getI dX9_takeWord_61 fX9_38 rfl sh1 (by decide) ?_
  refine wp_aload_n dX9_takeWord_64 rfl rfl ?_
  refine wp_getI dX9_takeWord_65 fX9_41 rfl sh1 (by decide) ?_
  refine wp_isub dX9_takeWord_68 ?_
  refine wp_bipush dX9_takeWord_69 (by decide) ?_
  refine wp_icmp_gt (tgt := 78) dX9_takeWord_71 rfl (fun c1 => ?_) (fun c1 => ?_)
  ·
    refine wp_iconst dX9_takeWord_78 (by decide) ?_
    exact (h.1 c1)
  ·
    refine wp_iconst dX9_takeWord_74 (by decide) ?_
    refine wp_goto (tgt := 79) dX9_takeWord_75 rfl ?_
    exact (h.2 c1)
set_option maxHeartbeats 4000000 in
set_option maxRecDepth 10000 in
theorem sX9_takeWord_0 {K : KK} {d : Nat} {V : Mem} {Q : Option AV → Mem → Prop}  (h : (((V 1 2) ≤ (V 1 3) → Wf K (d + 1) mX9_takeWord 59 [some (vR 1), none] [] V Q) ∧ (¬ ((V 1 2) ≤ (V 1 3)) → (((0 : Int) ≤ (V 1 3) ∧ (V 1 3) < (1000 : Nat)) ∧ Mf K d mX9_isLetter [vI (V 2 (Int.toNat (V 1 3)))] V (fun r V2 => ∃ z2, r = some (vI z2) ∧ ((z2 = 0 → Wf K (d + 1) mX9_takeWord 59 [some (vR 1), none] [] V2 Q) ∧ (¬ (z2 = 0) → (((0 : Int) ≤ (V2 1 3) ∧ (V2 1 3) < (1000 : Nat)) ∧ Wf K (d + 1) mX9_takeWord 0 [some (vR 1), none] [] (upm (upm V2 1 8 (w64 ((w64 ((V2 1 8) * 32)) + (w32 ((w32 ((V2 2 (Int.toNat (V2 1 3))) - 97)) + 1))))) 1 3 (w32 (((upm V2 1 8 (w64 ((w64 ((V2 1 8) * 32)) + (w32 ((w32 ((V2 2 (Int.toNat (V2 1 3))) - 97)) + 1))))) 1 3) + 1))) Q)))))))) : Wf K (d + 1) mX9_takeWord 0 [some (vR 1), none] [] V Q := by
  refine wp_aload_n dX9_takeWord_0 rfl rfl ?_
  refine wp_getI dX9_takeWord_1 fX9_38 rfl sh1 (by decide) ?_
  refine wp_aload_n dX9_takeWord_4 rfl rfl ?_
  refine wp_getI dX9_takeWord_5 fX9_35 rfl sh1 (by decide) ?_
  refine wp_icmp_ge (tgt := 59) dX9_takeWord_8 rfl (fun c1 => ?_) (fun c1 => ?_)
  ·
    exact (h.1 c1)
  ·
    refine wp_aload_n dX9_takeWord_11 rfl rfl ?_
    refine wp_getR (b := 2) dX9_takeWord_12 fX9_9 rfl sh1 (by decide) rfl ?_
    refine wp_aload_n dX9_takeWord_15 rfl rfl ?_
    refine wp_getI dX9_takeWord_16 fX9_38 rfl sh1 (by decide) ?_
    refine wp_cald dX9_takeWord_19 sh2 (h.2 c1).1 ?_
    refine wp_callS (S := []) (as := [vI (V 2 (Int.toNat (V 1 3)))]) dX9_takeWord_20 lX9_57 ((h.2 c1).2) (by omega) rfl rfl (Nat.le_of_ble_eq_true rfl) ⟨Nat.le_refl _, Nat.le_refl _⟩ ?_
    rintro _ _ V2 ⟨rfl, z2, rfl, q2⟩
    show Wp _ _ _ _ _ 23 _ [vI z2] _ _ _ _ _
    refine wp_if_eq (tgt := 59) dX9_takeWord_23 rfl (fun c3 => ?_) (fun c3 => ?_)
    ·
      exact (q2.1 c3)
    ·
      refine wp_aload_n dX9_takeWord_26 rfl rfl ?_
      refine wp_aload_n dX9_takeWord_27 rfl rfl ?_
      refine wp_getJ dX9_takeWord_28 fX9_50 rfl sh1 (by decide) ?_
      refine wp_aload_n dX9_takeWord_31 rfl rfl ?_
      refine wp_getR (b := 2) dX9_takeWord_32 fX9_9 rfl sh1 (by decide) rfl ?_
      refine wp_aload_n dX9_takeWord_35 rfl rfl ?_
      refine wp_getI dX9_takeWord_36 fX9_38 rfl sh1 (by decide) ?_
      refine wp_cald dX9_takeWord_39 sh2 (q2.2 c3).1 ?_
      refine wp_inlS (d' := d) (S := [vR 1]) (as := [vJ (V2 1 8), vI (V2 2 (Int.toNat (V2 1 3)))]) dX9_takeWord_40 lX9_31 (by omega) rfl rfl (Nat.le_of_ble_eq_true rfl) ⟨Nat.le_refl _, Nat.le_refl _⟩ (Mt.of2 (L := [some (vJ (V2 1 8)), none, some (vI (V2 2 (Int.toNat (V2 1 3))))]) pnX9 rfl rfl ?_)
      refine wp_lload_n dX9_withLetter_0 rfl rfl ?_
      refine wp_ldc2 (z := 32) dX9_withLetter_1 kX9_79 (by decide) ?_
      refine wp_lmul dX9_withLetter_4 ?_
      refine wp_iload_n dX9_withLetter_5 rfl rfl ?_
      refine wp_bipush dX9_withLetter_6 (by decide) ?_
      refine wp_isub dX9_withLetter_8 ?_
      refine wp_iconst dX9_withLetter_9 (by decide) ?_
      refine wp_iadd dX9_withLetter_10 ?_
      refine wp_i2l dX9_withLetter_11 ?_
      refine wp_ladd dX9_withLetter_12 ?_
      refine wp_lreturn dX9_withLetter_13 rfl ⟨rfl, rfl⟩ ?_
      show Wp _ _ _ _ _ 43 _ [vJ (w64 ((w64 ((V2 1 8) * 32)) + (w32 ((w32 ((V2 2 (Int.toNat (V2 1 3))) - 97)) + 1)))), vR 1] _ _ _ _ _
      refine wp_putJ dX9_takeWord_43 fwX9_50 rfl sh1 (by decide) ?_
      refine wp_aload_n dX9_takeWord_46 rfl rfl ?_
      refine wp_dup dX9_takeWord_47 rfl ?_
      refine wp_getI dX9_takeWord_48 fX9_38 rfl sh1 (by decide) ?_
      refine wp_iconst dX9_takeWord_51 (by decide) ?_
      refine wp_iadd dX9_takeWord_52 ?_
      refine wp_putI dX9_takeWord_53 fwX9_38 rfl sh1 (by decide) ?_
      refine wp_goto (tgt := 0) dX9_takeWord_56 rfl ?_
      exact (q2.2 c3).2
set_option maxHeartbeats 4000000 in
set_option maxRecDepth 10000 in
theorem sX9_takeWord_79 {K : KK} {d : Nat} {V : Mem} {Q : Option AV → Mem → Prop} (s1 : Int) (h : Wf K (d + 1) mX9_takeWord 84 [some (vR 1), some (vI 0)] [] (upm V 1 4 s1) Q) : Wf K (d + 1) mX9_takeWord 79 [some (vR 1), none] [vI s1, vR 1] V Q := by
  refine wp_putI dX9_takeWord_79 fwX9_54 rfl sh1 (by decide) ?_
  refine wp_iconst dX9_takeWord_82 (by decide) ?_
  refine wp_istore_n dX9_takeWord_83 rfl (by decide) rfl ?_
  exact h
set_option maxHeartbeats 4000000 in
set_option maxRecDepth 10000 in
theorem sX9_takeWord_84 {K : KK} {d : Nat} {V : Mem} {Q : Option AV → Mem → Prop} (x1 : Int) (h : ((19 ≤ x1 → Q none V) ∧ (¬ (19 ≤ x1) → ((¬ (V 1 4) = 2 → Q none V) ∧ ((V 1 4) = 2 → (((0 : Int) ≤ x1 ∧ x1 < (19 : Nat)) ∧ ((¬ (b_lcmp (V 3 (Int.toNat x1)) (V 1 8)) = 0 → Wf K (d + 1) mX9_takeWord 124 [some (vR 1), some (vI x1)] [] V Q) ∧ ((b_lcmp (V 3 (Int.toNat x1)) (V 1 8)) = 0 → Wf K (d + 1) mX9_takeWord 124 [some (vR 1), some (vI x1)] [] (upm V 1 7 (w32 (128 + x1))) Q)))))))) : Wf K (d + 1) mX9_takeWord 84 [some (vR 1), some (vI x1)] [] V Q := by
  refine wp_iload_n dX9_takeWord_84 rfl rfl ?_
  refine wp_aload_n dX9_takeWord_85 rfl rfl ?_
  refine wp_getR (b := 3) dX9_takeWord_86 fX9_15 rfl sh1 (by decide) rfl ?_
  refine wp_alen dX9_takeWord_89 sh3 (by decide) (by decide) ?_
  refine wp_icmp_ge (tgt := 130) dX9_takeWord_90 rfl (fun c1 => ?_) (fun c1 => ?_)
  ·
    exact wp_return dX9_takeWord_130 rfl ⟨rfl, rfl⟩ ⟨rfl, (h.1 c1)⟩
  ·
    refine wp_aload_n dX9_takeWord_93 rfl rfl ?_
    refine wp_getI dX9_takeWord_94 fX9_54 rfl sh1 (by decide) ?_
    refine wp_iconst dX9_takeWord_97 (by decide) ?_
    refine wp_icmp_ne (tgt := 130) dX9_takeWord_98 rfl (fun c2 => ?_) (fun c2 => ?_)
    ·
      exact wp_return dX9_takeWord_130 rfl ⟨rfl, rfl⟩ ⟨rfl, ((h.2 c1).1 c2)⟩
    ·
      refine wp_aload_n dX9_takeWord_101 rfl rfl ?_
      refine wp_getR (b := 3) dX9_takeWord_102 fX9_15 rfl sh1 (by decide) rfl ?_
      refine wp_iload_n dX9_takeWord_105 rfl rfl ?_
      refine wp_lald dX9_takeWord_106 sh3 ((h.2 c1).2 c2).1 ?_
      refine wp_aload_n dX9_takeWord_107 rfl rfl ?_
      refine wp_getJ dX9_takeWord_108 fX9_50 rfl sh1 (by decide) ?_
      refine wp_lcmp dX9_takeWord_111 ?_
      refine wp_if_ne (tgt := 124) dX9_takeWord_112 rfl (fun c3 => ?_) (fun c3 => ?_)
      ·
        exact (((h.2 c1).2 c2).2.1 c3)
      ·
        refine wp_aload_n dX9_takeWord_115 rfl rfl ?_
        refine wp_sipush dX9_takeWord_116 (by decide) ?_
        refine wp_iload_n dX9_takeWord_119 rfl rfl ?_
        refine wp_iadd dX9_takeWord_120 ?_
        refine wp_putI dX9_takeWord_121 fwX9_47 rfl sh1 (by decide) ?_
        exact (((h.2 c1).2 c2).2.2 c3)
set_option maxHeartbeats 4000000 in
set_option maxRecDepth 10000 in
theorem sX9_takeWord_124 {K : KK} {d : Nat} {V : Mem} {Q : Option AV → Mem → Prop} (x1 : Int) (h : Wf K (d + 1) mX9_takeWord 84 [some (vR 1), some (vI (w32 (x1 + 1)))] [] V Q) : Wf K (d + 1) mX9_takeWord 124 [some (vR 1), some (vI x1)] [] V Q := by
  refine wp_iinc dX9_takeWord_124 rfl rfl ?_
  refine wp_goto (tgt := 84) dX9_takeWord_127 rfl ?_
  exact h
set_option maxHeartbeats 4000000 in
set_option maxRecDepth 10000 in
theorem sX9_takeNumber {K : KK} {d : Nat} {V : Mem} {Q : Option AV → Mem → Prop}  (h : (((V 1 2) ≤ (V 1 3) → ((4 < (w32 ((V 1 3) - (V 1 5))) → Q none (upm V 1 4 1)) ∧ (¬ (4 < (w32 ((V 1 3) - (V 1 5)))) → Q none (upm V 1 4 3)))) ∧ (¬ ((V 1 2) ≤ (V 1 3)) → (((0 : Int) ≤ (V 1 3) ∧ (V 1 3) < (1000 : Nat)) ∧ Mf K d mX9_isDigit [vI (V 2 (Int.toNat (V 1 3)))] V (fun r V3 => ∃ z3, r = some (vI z3) ∧ ((z3 = 0 → ((4 < (w32 ((V3 1 3) - (V3 1 5))) → Q none (upm V3 1 4 1)) ∧ (¬ (4 < (w32 ((V3 1 3) - (V3 1 5)))) → Q none (upm V3 1 4 3)))) ∧ (¬ (z3 = 0) → (((0 : Int) ≤ (V3 1 3) ∧ (V3 1 3) < (1000 : Nat)) ∧ Wf K (d + 1) mX9_takeNumber 0 [some (vR 1)] [] (upm (upm V3 1 6 (w32 ((w32 ((V3 1 6) * 10)) + (w32 ((V3 2 (Int.toNat (V3 1 3))) - 48))))) 1 3 (w32 (((upm V3 1 6 (w32 ((w32 ((V3 1 6) * 10)) + (w32 ((V3 2 (Int.toNat (V3 1 3))) - 48))))) 1 3) + 1))) Q)))))))) : Mf K (d + 1) mX9_takeNumber [vR 1] V Q := by
  refine Mt.of2 (L := [some (vR 1)]) pnX9 rfl rfl ?_
  refine wp_aload_n dX9_takeNumber_0 rfl rfl ?_
  refine wp_getI dX9_takeNumber_1 fX9_38 rfl sh1 (by decide) ?_
  refine wp_aload_n dX9_takeNumber_4 rfl rfl ?_
  refine wp_getI dX9_takeNumber_5 fX9_35 rfl sh1 (by decide) ?_
  refine wp_icmp_ge (tgt := 63) dX9_takeNumber_8 rfl (fun c1 => ?_) (fun c1 => ?_)
  ·
    refine wp_aload_n dX9_takeNumber_63 rfl rfl ?_
    refine wp_aload_n dX9_takeNumber_64 rfl rfl ?_
    refine wp_getI dX9_takeNumber_65 fX9_38 rfl sh1 (by decide) ?_
    refine wp_aload_n dX9_takeNumber_68 rfl rfl ?_
    refine wp_getI dX9_takeNumber_69 fX9_41 rfl sh1 (by decide) ?_
    refine wp_isub dX9_takeNumber_72 ?_
    refine wp_iconst dX9_takeNumber_73 (by decide) ?_
    refine wp_icmp_gt (tgt := 81) dX9_takeNumber_74 rfl (fun c2 => ?_) (fun c2 => ?_)
    ·
      refine wp_iconst dX9_takeNumber_81 (by decide) ?_
      refine wp_putI dX9_takeNumber_82 fwX9_54 rfl sh1 (by decide) ?_
      exact wp_return dX9_takeNumber_85 rfl ⟨rfl, rfl⟩ ⟨rfl, ((h.1 c1).1 c2)⟩
    ·
      refine wp_iconst dX9_takeNumber_77 (by decide) ?_
      refine wp_goto (tgt := 82) dX9_takeNumber_78 rfl ?_
      refine wp_putI dX9_takeNumber_82 fwX9_54 rfl sh1 (by decide) ?_
      exact wp_return dX9_takeNumber_85 rfl ⟨rfl, rfl⟩ ⟨rfl, ((h.1 c1).2 c2)⟩
  ·
    refine wp_aload_n dX9_takeNumber_11 rfl rfl ?_
    refine wp_getR (b := 2) dX9_takeNumber_12 fX9_9 rfl sh1 (by decide) rfl ?_
    refine wp_aload_n dX9_takeNumber_15 rfl rfl ?_
    refine wp_getI dX9_takeNumber_16 fX9_38 rfl sh1 (by decide) ?_
    refine wp_cald dX9_takeNumber_19 sh2 (h.2 c1).1 ?_
    refine wp_callS (S := []) (as := [vI (V 2 (Int.toNat (V 1 3)))]) dX9_takeNumber_20 lX9_64 ((h.2 c1).2) (by omega) rfl rfl (Nat.le_of_ble_eq_true rfl) ⟨Nat.le_refl _, Nat.le_refl _⟩ ?_
    rintro _ _ V3 ⟨rfl, z3, rfl, q3⟩
    show Wp _ _ _ _ _ 23 _ [vI z3] _ _ _ _ _
    refine wp_if_eq (tgt := 63) dX9_takeNumber_23 rfl (fun c4 => ?_) (fun c4 => ?_)
    ·
      refine wp_aload_n dX9_takeNumber_63 rfl rfl ?_
      refine wp_aload_n dX9_takeNumber_64 rfl rfl ?_
      refine wp_getI dX9_takeNumber_65 fX9_38 rfl sh1 (by decide) ?_
      refine wp_aload_n dX9_takeNumber_68 rfl rfl ?_
      refine wp_getI dX9_takeNumber_69 fX9_41 rfl sh1 (by decide) ?_
      refine wp_isub dX9_takeNumber_72 ?_
      refine wp_iconst dX9_takeNumber_73 (by decide) ?_
      refine wp_icmp_gt (tgt := 81) dX9_takeNumber_74 rfl (fun c5 => ?_) (fun c5 => ?_)
      ·
        refine wp_iconst dX9_takeNumber_81 (by decide) ?_
        refine wp_putI dX9_takeNumber_82 fwX9_54 rfl sh1 (by decide) ?_
        exact wp_return dX9_takeNumber_85 rfl ⟨rfl, rfl⟩ ⟨rfl, ((q3.1 c4).1 c5)⟩
      ·
        refine wp_iconst dX9_takeNumber_77 (by decide) ?_
        refine wp_goto (tgt := 82) dX9_takeNumber_78 rfl ?_
        refine wp_putI dX9_takeNumber_82 fwX9_54 rfl sh1 (by decide) ?_
        exact wp_return dX9_takeNumber_85 rfl ⟨rfl, rfl⟩ ⟨rfl, ((q3.1 c4).2 c5)⟩
    ·
      refine wp_aload_n dX9_takeNumber_26 rfl rfl ?_
      refine wp_aload_n dX9_takeNumber_27 rfl rfl ?_
      refine wp_getI dX9_takeNumber_28 fX9_44 rfl sh1 (by decide) ?_
      refine wp_bipush dX9_takeNumber_31 (by decide) ?_
      refine wp_imul dX9_takeNumber_33 ?_
      refine wp_aload_n dX9_takeNumber_34 rfl rfl ?_
      refine wp_getR (b := 2) dX9_takeNumber_35 fX9_9 rfl sh1 (by decide) rfl ?_
      refine wp_aload_n dX9_takeNumber_38 rfl rfl ?_
      refine wp_getI dX9_takeNumber_39 fX9_38 rfl sh1 (by decide) ?_
      refine wp_cald dX9_takeNumber_42 sh2 (q3.2 c4).1 ?_
      refine wp_bipush dX9_takeNumber_43 (by decide) ?_
      refine wp_isub dX9_takeNumber_45 ?_
      refine wp_iadd dX9_takeNumber_46 ?_
      refine wp_putI dX9_takeNumber_47 fwX9_44 rfl sh1 (by decide) ?_
      refine wp_aload_n dX9_takeNumber_50 rfl rfl ?_
      refine wp_dup dX9_takeNumber_51 rfl ?_
      refine wp_getI dX9_takeNumber_52 fX9_38 rfl sh1 (by decide) ?_
      refine wp_iconst dX9_takeNumber_55 (by decide) ?_
      refine wp_iadd dX9_takeNumber_56 ?_
      refine wp_putI dX9_takeNumber_57 fwX9_38 rfl sh1 (by decide) ?_
      refine wp_goto (tgt := 0) dX9_takeNumber_60 rfl ?_
      exact (q3.2 c4).2
set_option maxHeartbeats 4000000 in
set_option maxRecDepth 10000 in
theorem sX9_takeNumber_0 {K : KK} {d : Nat} {V : Mem} {Q : Option AV → Mem → Prop}  (h : (((V 1 2) ≤ (V 1 3) → ((4 < (w32 ((V 1 3) - (V 1 5))) → Q none (upm V 1 4 1)) ∧ (¬ (4 < (w32 ((V 1 3) - (V 1 5)))) → Q none (upm V 1 4 3)))) ∧ (¬ ((V 1 2) ≤ (V 1 3)) → (((0 : Int) ≤ (V 1 3) ∧ (V 1 3) < (1000 : Nat)) ∧ Mf K d mX9_isDigit [vI (V 2 (Int.toNat (V 1 3)))] V (fun r V3 => ∃ z3, r = some (vI z3) ∧ ((z3 = 0 → ((4 < (w32 ((V3 1 3) - (V3 1 5))) → Q none (upm V3 1 4 1)) ∧ (¬ (4 < (w32 ((V3 1 3) - (V3 1 5)))) → Q none (upm V3 1 4 3)))) ∧ (¬ (z3 = 0) → (((0 : Int) ≤ (V3 1 3) ∧ (V3 1 3) < (1000 : Nat)) ∧ Wf K (d + 1) mX9_takeNumber 0 [some (vR 1)] [] (upm (upm V3 1 6 (w32 ((w32 ((V3 1 6) * 10)) + (w32 ((V3 2 (Int.toNat (V3 1 3))) - 48))))) 1 3 (w32 (((upm V3 1 6 (w32 ((w32 ((V3 1 6) * 10)) + (w32 ((V3 2 (Int.toNat (V3 1 3))) - 48))))) 1 3) + 1))) Q)))))))) : Wf K (d + 1) mX9_takeNumber 0 [some (vR 1)] [] V Q := by
  refine wp_aload_n dX9_takeNumber_0 rfl rfl ?_
  refine wp_getI dX9_takeNumber_1 fX9_38 rfl sh1 (by decide) ?_
  refine wp_aload_n dX9_takeNumber_4 rfl rfl ?_
  refine wp_getI dX9_takeNumber_5 fX9_35 rfl sh1 (by decide) ?_
  refine wp_icmp_ge (tgt := 63) dX9_takeNumber_8 rfl (fun c1 => ?_) (fun c1 => ?_)
  ·
    refine wp_aload_n dX9_takeNumber_63 rfl rfl ?_
    refine wp_aload_n dX9_takeNumber_64 rfl rfl ?_
    refine wp_getI dX9_takeNumber_65 fX9_38 rfl sh1 (by decide) ?_
    refine wp_aload_n dX9_takeNumber_68 rfl rfl ?_
    refine wp_getI dX9_takeNumber_69 fX9_41 rfl sh1 (by decide) ?_
    refine wp_isub dX9_takeNumber_72 ?_
    refine wp_iconst dX9_takeNumber_73 (by decide) ?_
    refine wp_icmp_gt (tgt := 81) dX9_takeNumber_74 rfl (fun c2 => ?_) (fun c2 => ?_)
    ·
      refine wp_iconst dX9_takeNumber_81 (by decide) ?_
      refine wp_putI dX9_takeNumber_82 fwX9_54 rfl sh1 (by decide) ?_
      exact wp_return dX9_takeNumber_85 rfl ⟨rfl, rfl⟩ ⟨rfl, ((h.1 c1).1 c2)⟩
    ·
      refine wp_iconst dX9_takeNumber_77 (by decide) ?_
      refine wp_goto (tgt := 82) dX9_takeNumber_78 rfl ?_
      refine wp_putI dX9_takeNumber_82 fwX9_54 rfl sh1 (by decide) ?_
      exact wp_return dX9_takeNumber_85 rfl ⟨rfl, rfl⟩ ⟨rfl, ((h.1 c1).2 c2)⟩
  ·
    refine wp_aload_n dX9_takeNumber_11 rfl rfl ?_
    refine wp_getR (b := 2) dX9_takeNumber_12 fX9_9 rfl sh1 (by decide) rfl ?_
    refine wp_aload_n dX9_takeNumber_15 rfl rfl ?_
    refine wp_getI dX9_takeNumber_16 fX9_38 rfl sh1 (by decide) ?_
    refine wp_cald dX9_takeNumber_19 sh2 (h.2 c1).1 ?_
    refine wp_callS (S := []) (as := [vI (V 2 (Int.toNat (V 1 3)))]) dX9_takeNumber_20 lX9_64 ((h.2 c1).2) (by omega) rfl rfl (Nat.le_of_ble_eq_true rfl) ⟨Nat.le_refl _, Nat.le_refl _⟩ ?_
    rintro _ _ V3 ⟨rfl, z3, rfl, q3⟩
    show Wp _ _ _ _ _ 23 _ [vI z3] _ _ _ _ _
    refine wp_if_eq (tgt := 63) dX9_takeNumber_23 rfl (fun c4 => ?_) (fun c4 => ?_)
    ·
      refine wp_aload_n dX9_takeNumber_63 rfl rfl ?_
      refine wp_aload_n dX9_takeNumber_64 rfl rfl ?_
      refine wp_getI dX9_takeNumber_65 fX9_38 rfl sh1 (by decide) ?_
      refine wp_aload_n dX9_takeNumber_68 rfl rfl ?_
      refine wp_getI dX9_takeNumber_69 fX9_41 rfl sh1 (by decide) ?_
      refine wp_isub dX9_takeNumber_72 ?_
      refine wp_iconst dX9_takeNumber_73 (by decide) ?_
      refine wp_icmp_gt (tgt := 81) dX9_takeNumber_74 rfl (fun c5 => ?_) (fun c5 => ?_)
      ·
        refine wp_iconst dX9_takeNumber_81 (by decide) ?_
        refine wp_putI dX9_takeNumber_82 fwX9_54 rfl sh1 (by decide) ?_
        exact wp_return dX9_takeNumber_85 rfl ⟨rfl, rfl⟩ ⟨rfl, ((q3.1 c4).1 c5)⟩
      ·
        refine wp_iconst dX9_takeNumber_77 (by decide) ?_
        refine wp_goto (tgt := 82) dX9_takeNumber_78 rfl ?_
        refine wp_putI dX9_takeNumber_82 fwX9_54 rfl sh1 (by decide) ?_
        exact wp_return dX9_takeNumber_85 rfl ⟨rfl, rfl⟩ ⟨rfl, ((q3.1 c4).2 c5)⟩
    ·
      refine wp_aload_n dX9_takeNumber_26 rfl rfl ?_
      refine wp_aload_n dX9_takeNumber_27 rfl rfl ?_
      refine wp_getI dX9_takeNumber_28 fX9_44 rfl sh1 (by decide) ?_
      refine wp_bipush dX9_takeNumber_31 (by decide) ?_
      refine wp_imul dX9_takeNumber_33 ?_
      refine wp_aload_n dX9_takeNumber_34 rfl rfl ?_
      refine wp_getR (b := 2) dX9_takeNumber_35 fX9_9 rfl sh1 (by decide) rfl ?_
      refine wp_aload_n dX9_takeNumber_38 rfl rfl ?_
      refine wp_getI dX9_takeNumber_39 fX9_38 rfl sh1 (by decide) ?_
      refine wp_cald dX9_takeNumber_42 sh2 (q3.2 c4).1 ?_
      refine wp_bipush dX9_takeNumber_43 (by decide) ?_
      refine wp_isub dX9_takeNumber_45 ?_
      refine wp_iadd dX9_takeNumber_46 ?_
      refine wp_putI dX9_takeNumber_47 fwX9_44 rfl sh1 (by decide) ?_
      refine wp_aload_n dX9_takeNumber_50 rfl rfl ?_
      refine wp_dup dX9_takeNumber_51 rfl ?_
      refine wp_getI dX9_takeNumber_52 fX9_38 rfl sh1 (by decide) ?_
      refine wp_iconst dX9_takeNumber_55 (by decide) ?_
      refine wp_iadd dX9_takeNumber_56 ?_
      refine wp_putI dX9_takeNumber_57 fwX9_38 rfl sh1 (by decide) ?_
      refine wp_goto (tgt := 0) dX9_takeNumber_60 rfl ?_
      exact (q3.2 c4).2
set_option maxHeartbeats 4000000 in
set_option maxRecDepth 10000 in
theorem sX9_isLetter {K : KK} {d : Nat} {V : Mem} {Q : Option AV → Mem → Prop} (x0 : Int) (h : ((x0 < 97 → Q (some (vI 0)) V) ∧ (¬ (x0 < 97) → ((122 < x0 → Q (some (vI 0)) V) ∧ (¬ (122 < x0) → Q (some (vI 1)) V))))) : Mf K d mX9_isLetter [vI x0] V Q := by
  refine Mt.of2 (L := [some (vI x0)]) pnX9 rfl rfl ?_
  refine wp_iload_n dX9_isLetter_0 rfl rfl ?_
  refine wp_bipush dX9_isLetter_1 (by decide) ?_
  refine wp_icmp_lt (tgt := 16) dX9_isLetter_3 rfl (fun c1 => ?_) (fun c1 => ?_)
  ·
    refine wp_iconst dX9_isLetter_16 (by decide) ?_
    exact wp_zreturn dX9_isLetter_17 rfl ⟨rfl, rfl⟩ (by decide) ⟨rfl, (h.1 c1)⟩
  ·
    refine wp_iload_n dX9_isLetter_6 rfl rfl ?_
    refine wp_bipush dX9_isLetter_7 (by decide) ?_
    refine wp_icmp_gt (tgt := 16) dX9_isLetter_9 rfl (fun c2 => ?_) (fun c2 => ?_)
    ·
      refine wp_iconst dX9_isLetter_16 (by decide) ?_
      exact wp_zreturn dX9_isLetter_17 rfl ⟨rfl, rfl⟩ (by decide) ⟨rfl, ((h.2 c1).1 c2)⟩
    ·
      refine wp_iconst dX9_isLetter_12 (by decide) ?_
      refine wp_goto (tgt := 17) dX9_isLetter_13 rfl ?_
      exact wp_zreturn dX9_isLetter_17 rfl ⟨rfl, rfl⟩ (by decide) ⟨rfl, ((h.2 c1).2 c2)⟩
set_option maxHeartbeats 4000000 in
set_option maxRecDepth 10000 in
theorem sX9_isDigit {K : KK} {d : Nat} {V : Mem} {Q : Option AV → Mem → Prop} (x0 : Int) (h : ((x0 < 48 → Q (some (vI 0)) V) ∧ (¬ (x0 < 48) → ((57 < x0 → Q (some (vI 0)) V) ∧ (¬ (57 < x0) → Q (some (vI 1)) V))))) : Mf K d mX9_isDigit [vI x0] V Q := by
  refine Mt.of2 (L := [some (vI x0)]) pnX9 rfl rfl ?_
  refine wp_iload_n dX9_isDigit_0 rfl rfl ?_
  refine wp_bipush dX9_isDigit_1 (by decide) ?_
  refine wp_icmp_lt (tgt := 16) dX9_isDigit_3 rfl (fun c1 => ?_) (fun c1 => ?_)
  ·
    refine wp_iconst dX9_isDigit_16 (by decide) ?_
    exact wp_zreturn dX9_isDigit_17 rfl ⟨rfl, rfl⟩ (by decide) ⟨rfl, (h.1 c1)⟩
  ·
    refine wp_iload_n dX9_isDigit_6 rfl rfl ?_
    refine wp_bipush dX9_isDigit_7 (by decide) ?_
    refine wp_icmp_gt (tgt := 16) dX9_isDigit_9 rfl (fun c2 => ?_) (fun c2 => ?_)
    ·
      refine wp_iconst dX9_isDigit_16 (by decide) ?_
      exact wp_zreturn dX9_isDigit_17 rfl ⟨rfl, rfl⟩ (by decide) ⟨rfl, ((h.2 c1).1 c2)⟩
    ·
      refine wp_iconst dX9_isDigit_12 (by decide) ?_
      refine wp_goto (tgt := 17) dX9_isDigit_13 rfl ?_
      exact wp_zreturn dX9_isDigit_17 rfl ⟨rfl, rfl⟩ (by decide) ⟨rfl, ((h.2 c1).2 c2)⟩
set_option maxHeartbeats 4000000 in
set_option maxRecDepth 10000 in
theorem sX9_withLetter {K : KK} {d : Nat} {V : Mem} {Q : Option AV → Mem → Prop} (j0 : Int) (x2 : Int) (h : Q (some (vJ (w64 ((w64 (j0 * 32)) + (w32 ((w32 (x2 - 97)) + 1)))))) V) : Mf K d mX9_withLetter [vJ j0, vI x2] V Q := by
  refine Mt.of2 (L := [some (vJ j0), none, some (vI x2)]) pnX9 rfl rfl ?_
  refine wp_lload_n dX9_withLetter_0 rfl rfl ?_
  refine wp_ldc2 (z := 32) dX9_withLetter_1 kX9_79 (by decide) ?_
  refine wp_lmul dX9_withLetter_4 ?_
  refine wp_iload_n dX9_withLetter_5 rfl rfl ?_
  refine wp_bipush dX9_withLetter_6 (by decide) ?_
  refine wp_isub dX9_withLetter_8 ?_
  refine wp_iconst dX9_withLetter_9 (by decide) ?_
  refine wp_iadd dX9_withLetter_10 ?_
  refine wp_i2l dX9_withLetter_11 ?_
  refine wp_ladd dX9_withLetter_12 ?_
  exact wp_lreturn dX9_withLetter_13 rfl ⟨rfl, rfl⟩ ⟨rfl, h⟩
