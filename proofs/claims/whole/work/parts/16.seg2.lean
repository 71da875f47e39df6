/-! ===== segments X1 X2 X8 X10, by program ===== -/
set_option maxHeartbeats 4000000 in
set_option maxRecDepth 10000 in
theorem sX1_load {K : KK} {d : Nat} {V : Mem} {Q : Option AV → Mem → Prop} (a0 : Nat) (a1 : Nat) (a2 : Nat) (h0 : IsChains a0) (h1 : IsRow a1) (h2 : IsLaw a2) (h : Wf K (d + 1) mX1_load 26 [some (vR a0), some (vR a1), some (vR a2), some (vI 0)] [] (upm (upm V a0 4 (min (V a1 3) 20)) a0 6 ((upm V a0 4 (min (V a1 3) 20)) a1 2)) Q) : Mf K (d + 1) mX1_load [vR a0, vR a1, vR a2] V Q := by
  refine Mt.of2 (L := [some (vR a0), some (vR a1), some (vR a2), none]) pnX1 rfl rfl ?_
  refine wp_aload_n dX1_load_0 rfl rfl ?_
  refine wp_aload_n dX1_load_1 rfl rfl ?_
  refine wp_getI dX1_load_2 fX1_24 rfl h1.1 (by decide) ?_
  refine wp_aload_n dX1_load_5 rfl rfl ?_
  refine wp_getR (b := (a0 + 1)) dX1_load_6 fX1_9 rfl h0.1 (by decide) rfl ?_
  refine wp_alen dX1_load_9 h0.2.1 (by decide) (by decide) ?_
  refine wp_mmin dX1_load_10 lX1_30 (by omega) (Nat.le_of_ble_eq_true rfl) ⟨Nat.le_refl _, Nat.le_refl _⟩ ?_
  refine wp_putI dX1_load_13 fwX1_36 rfl h0.1 (by decide) ?_
  refine wp_aload_n dX1_load_16 rfl rfl ?_
  refine wp_aload_n dX1_load_17 rfl rfl ?_
  refine wp_getI dX1_load_18 fX1_37 rfl h1.1 (by decide) ?_
  refine wp_putI dX1_load_21 fwX1_40 rfl h0.1 (by decide) ?_
  refine wp_iconst dX1_load_24 (by decide) ?_
  refine wp_istore_n dX1_load_25 rfl (by decide) rfl ?_
  exact h
set_option maxHeartbeats 4000000 in
set_option maxRecDepth 10000 in
theorem sX1_load_26 {K : KK} {d : Nat} {V : Mem} {Q : Option AV → Mem → Prop} (a0 : Nat) (a1 : Nat) (a2 : Nat) (x3 : Int) (h0 : IsChains a0) (h1 : IsRow a1) (h2 : IsLaw a2) (h : (((V a0 4) ≤ x3 → Q none V) ∧ (¬ ((V a0 4) ≤ x3) → (((0 : Int) ≤ x3 ∧ x3 < (20 : Nat)) ∧ Mf K d mX4_weigh [vR a2, vI (V (a1 + 1) (Int.toNat x3)), vI x3, vI (V a1 3), vI (V a0 6)] V (fun r V2 => ∃ z2, r = some (vI z2) ∧ (((0 : Int) ≤ x3 ∧ x3 < (20 : Nat)) ∧ Wf K (d + 1) mX1_load 26 [some (vR a0), some (vR a1), some (vR a2), some (vI (w32 (x3 + 1)))] [] (upm V2 (a0 + 1) (Int.toNat x3) z2) Q)))))) : Wf K (d + 1) mX1_load 26 [some (vR a0), some (vR a1), some (vR a2), some (vI x3)] [] V Q := by
  refine wp_iload_n dX1_load_26 rfl rfl ?_
  refine wp_aload_n dX1_load_27 rfl rfl ?_
  refine wp_getI dX1_load_28 fX1_36 rfl h0.1 (by decide) ?_
  refine wp_icmp_ge (tgt := 65) dX1_load_31 rfl (fun c1 => ?_) (fun c1 => ?_)
  ·
    exact wp_return dX1_load_65 rfl ⟨rfl, rfl⟩ ⟨rfl, (h.1 c1)⟩
  ·
    refine wp_aload_n dX1_load_34 rfl rfl ?_
    refine wp_getR (b := (a0 + 1)) dX1_load_35 fX1_9 rfl h0.1 (by decide) rfl ?_
    refine wp_iload_n dX1_load_38 rfl rfl ?_
    refine wp_aload_n dX1_load_39 rfl rfl ?_
    refine wp_aload_n dX1_load_40 rfl rfl ?_
    refine wp_getR (b := (a1 + 1)) dX1_load_41 fX1_41 rfl h1.1 (by decide) rfl ?_
    refine wp_iload_n dX1_load_44 rfl rfl ?_
    refine wp_iald dX1_load_45 h1.2 (h.2 c1).1 ?_
    refine wp_iload_n dX1_load_46 rfl rfl ?_
    refine wp_aload_n dX1_load_47 rfl rfl ?_
    refine wp_getI dX1_load_48 fX1_24 rfl h1.1 (by decide) ?_
    refine wp_aload_n dX1_load_51 rfl rfl ?_
    refine wp_getI dX1_load_52 fX1_40 rfl h0.1 (by decide) ?_
    refine wp_callV (S := [vI x3, vR (a0 + 1)]) (as := [vI (V (a1 + 1) (Int.toNat x3)), vI x3, vI (V a1 3), vI (V a0 6)]) dX1_load_55 lX1_44 ((h.2 c1).2) (by omega) h2.1 rfl rfl (Nat.le_of_ble_eq_true rfl) ⟨Nat.le_refl _, Nat.le_refl _⟩ ?_
    rintro _ _ V2 ⟨rfl, z2, rfl, q2⟩
    show Wp _ _ _ _ _ 58 _ [vI z2, vI x3, vR (a0 + 1)] _ _ _ _ _
    refine wp_iast dX1_load_58 h0.2.1 q2.1 ?_
    refine wp_iinc dX1_load_59 rfl rfl ?_
    refine wp_goto (tgt := 26) dX1_load_62 rfl ?_
    exact q2.2
set_option maxHeartbeats 4000000 in
set_option maxRecDepth 10000 in
theorem sX1_mayFollow {K : KK} {d : Nat} {V : Mem} {Q : Option AV → Mem → Prop} (a0 : Nat) (x1 : Int) (x2 : Int) (h0 : IsChains a0) (h : (((V a0 6) = 0 → ((x1 ≤ x2 → Q (some (vI 0)) V) ∧ (¬ (x1 ≤ x2) → Q (some (vI 1)) V))) ∧ ((V a0 6) = 1 → ((x1 < x2 → Q (some (vI 0)) V) ∧ (¬ (x1 < x2) → Q (some (vI 1)) V))) ∧ ((V a0 6) = 2 → ((x2 ≤ x1 → Q (some (vI 0)) V) ∧ (¬ (x2 ≤ x1) → Q (some (vI 1)) V))) ∧ (((V a0 6) < 0 ∨ 2 < (V a0 6)) → ((x2 < x1 → Q (some (vI 0)) V) ∧ (¬ (x2 < x1) → Q (some (vI 1)) V))))) : Mf K d mX1_mayFollow [vR a0, vI x1, vI x2] V Q := by
  refine Mt.of2 (L := [some (vR a0), some (vI x1), some (vI x2)]) pnX1 rfl rfl ?_
  refine wp_aload_n dX1_mayFollow_0 rfl rfl ?_
  refine wp_getI dX1_mayFollow_1 fX1_40 rfl h0.1 (by decide) ?_
  refine tswS 0 2 (V a0 6) (fun o5 => ?_) (fun l5 u5 => ?_)
  ·
    refine wp_tswOut (tgt := 65) dX1_mayFollow_4 o5 rfl ?_
    refine wp_iload_n dX1_mayFollow_65 rfl rfl ?_
    refine wp_iload_n dX1_mayFollow_66 rfl rfl ?_
    refine wp_icmp_gt (tgt := 74) dX1_mayFollow_67 rfl (fun c4 => ?_) (fun c4 => ?_)
    ·
      refine wp_iconst dX1_mayFollow_74 (by decide) ?_
      exact wp_zreturn dX1_mayFollow_75 rfl ⟨rfl, rfl⟩ (by decide) ⟨rfl, (((h.2.2.2) o5).1 c4)⟩
    ·
      refine wp_iconst dX1_mayFollow_70 (by decide) ?_
      refine wp_goto (tgt := 75) dX1_mayFollow_71 rfl ?_
      exact wp_zreturn dX1_mayFollow_75 rfl ⟨rfl, rfl⟩ (by decide) ⟨rfl, (((h.2.2.2) o5).2 c4)⟩
  ·
    rcases (show (V a0 6) = 0 ∨ (V a0 6) = 1 ∨ (V a0 6) = 2 by omega) with e5 | e5 | e5
    ·
      refine wp_tswIn (tgt := 32) dX1_mayFollow_4 l5 u5 (by rw [e5] <;> rfl) rfl ?_
      refine wp_iload_n dX1_mayFollow_32 rfl rfl ?_
      refine wp_iload_n dX1_mayFollow_33 rfl rfl ?_
      refine wp_icmp_le (tgt := 41) dX1_mayFollow_34 rfl (fun c1 => ?_) (fun c1 => ?_)
      ·
        refine wp_iconst dX1_mayFollow_41 (by decide) ?_
        exact wp_zreturn dX1_mayFollow_42 rfl ⟨rfl, rfl⟩ (by decide) ⟨rfl, (((h.1) e5).1 c1)⟩
      ·
        refine wp_iconst dX1_mayFollow_37 (by decide) ?_
        refine wp_goto (tgt := 42) dX1_mayFollow_38 rfl ?_
        exact wp_zreturn dX1_mayFollow_42 rfl ⟨rfl, rfl⟩ (by decide) ⟨rfl, (((h.1) e5).2 c1)⟩
    ·
      refine wp_tswIn (tgt := 43) dX1_mayFollow_4 l5 u5 (by rw [e5] <;> rfl) rfl ?_
      refine wp_iload_n dX1_mayFollow_43 rfl rfl ?_
      refine wp_iload_n dX1_mayFollow_44 rfl rfl ?_
      refine wp_icmp_lt (tgt := 52) dX1_mayFollow_45 rfl (fun c2 => ?_) (fun c2 => ?_)
      ·
        refine wp_iconst dX1_mayFollow_52 (by decide) ?_
        exact wp_zreturn dX1_mayFollow_53 rfl ⟨rfl, rfl⟩ (by decide) ⟨rfl, (((h.2.1) e5).1 c2)⟩
      ·
        refine wp_iconst dX1_mayFollow_48 (by decide) ?_
        refine wp_goto (tgt := 53) dX1_mayFollow_49 rfl ?_
        exact wp_zreturn dX1_mayFollow_53 rfl ⟨rfl, rfl⟩ (by decide) ⟨rfl, (((h.2.1) e5).2 c2)⟩
    ·
      refine wp_tswIn (tgt := 54) dX1_mayFollow_4 l5 u5 (by rw [e5] <;> rfl) rfl ?_
      refine wp_iload_n dX1_mayFollow_54 rfl rfl ?_
      refine wp_iload_n dX1_mayFollow_55 rfl rfl ?_
      refine wp_icmp_ge (tgt := 63) dX1_mayFollow_56 rfl (fun c3 => ?_) (fun c3 => ?_)
      ·
        refine wp_iconst dX1_mayFollow_63 (by decide) ?_
        exact wp_zreturn dX1_mayFollow_64 rfl ⟨rfl, rfl⟩ (by decide) ⟨rfl, (((h.2.2.1) e5).1 c3)⟩
      ·
        refine wp_iconst dX1_mayFollow_59 (by decide) ?_
        refine wp_goto (tgt := 64) dX1_mayFollow_60 rfl ?_
        exact wp_zreturn dX1_mayFollow_64 rfl ⟨rfl, rfl⟩ (by decide) ⟨rfl, (((h.2.2.1) e5).2 c3)⟩
set_option maxHeartbeats 4000000 in
set_option maxRecDepth 10000 in
theorem sX1_follows {K : KK} {d : Nat} {V : Mem} {Q : Option AV → Mem → Prop} (a0 : Nat) (x1 : Int) (x2 : Int) (h0 : IsChains a0) (h : (((0 : Int) ≤ x1 ∧ x1 < (20 : Nat)) ∧ (((0 : Int) ≤ x2 ∧ x2 < (20 : Nat)) ∧ Mf K d mX1_mayFollow [vR a0, vI (V (a0 + 1) (Int.toNat x1)), vI (V (a0 + 1) (Int.toNat x2))] V (fun r V1 => ∃ z1, r = some (vI z1) ∧ ((z1 = 0 ∨ z1 = 1) ∧ Q (some (vI z1)) V1))))) : Mf K (d + 1) mX1_follows [vR a0, vI x1, vI x2] V Q := by
  refine Mt.of2 (L := [some (vR a0), some (vI x1), some (vI x2)]) pnX1 rfl rfl ?_
  refine wp_aload_n dX1_follows_0 rfl rfl ?_
  refine wp_aload_n dX1_follows_1 rfl rfl ?_
  refine wp_getR (b := (a0 + 1)) dX1_follows_2 fX1_9 rfl h0.1 (by decide) rfl ?_
  refine wp_iload_n dX1_follows_5 rfl rfl ?_
  refine wp_iald dX1_follows_6 h0.2.1 h.1 ?_
  refine wp_aload_n dX1_follows_7 rfl rfl ?_
  refine wp_getR (b := (a0 + 1)) dX1_follows_8 fX1_9 rfl h0.1 (by decide) rfl ?_
  refine wp_iload_n dX1_follows_11 rfl rfl ?_
  refine wp_iald dX1_follows_12 h0.2.1 h.2.1 ?_
  refine wp_callV (S := []) (as := [vI (V (a0 + 1) (Int.toNat x1)), vI (V (a0 + 1) (Int.toNat x2))]) dX1_follows_13 lX1_50 (h.2.2) (by omega) h0.1 rfl rfl (Nat.le_of_ble_eq_true rfl) ⟨Nat.le_refl _, Nat.le_refl _⟩ ?_
  rintro _ _ V1 ⟨rfl, z1, rfl, q1⟩
  show Wp _ _ _ _ _ 16 _ [vI z1] _ _ _ _ _
  exact wp_zreturn dX1_follows_16 rfl ⟨rfl, rfl⟩ q1.1 ⟨rfl, q1.2⟩
set_option maxHeartbeats 4000000 in
set_option maxRecDepth 10000 in
theorem sX1_measureUp {K : KK} {d : Nat} {V : Mem} {Q : Option AV → Mem → Prop} (a0 : Nat) (h0 : IsChains a0) (h : Wf K (d + 1) mX1_measureUp 5 [some (vR a0), some (vI (V a0 7)), none, none] [] V Q) : Mf K (d + 1) mX1_measureUp [vR a0] V Q := by
  refine Mt.of2 (L := [some (vR a0), none, none, none]) pnX1 rfl rfl ?_
  refine wp_aload_n dX1_measureUp_0 rfl rfl ?_
  refine wp_getI dX1_measureUp_1 fX1_54 rfl h0.1 (by decide) ?_
  refine wp_istore_n dX1_measureUp_4 rfl (by decide) rfl ?_
  exact h
set_option maxHeartbeats 4000000 in
set_option maxRecDepth 10000 in
theorem sX1_measureUp_5 {K : KK} {d : Nat} {V : Mem} {Q : Option AV → Mem → Prop} (a0 : Nat) (x1 : Int) (h0 : IsChains a0) (h : (((V a0 8) ≤ x1 → Q none V) ∧ (¬ ((V a0 8) ≤ x1) → Wf K (d + 1) mX1_measureUp 20 [some (vR a0), some (vI x1), some (vI 0), some (vI (V a0 7))] [] V Q))) : Wf K (d + 1) mX1_measureUp 5 [some (vR a0), some (vI x1), none, none] [] V Q := by
  refine wp_iload_n dX1_measureUp_5 rfl rfl ?_
  refine wp_aload_n dX1_measureUp_6 rfl rfl ?_
  refine wp_getI dX1_measureUp_7 fX1_57 rfl h0.1 (by decide) ?_
  refine wp_icmp_ge (tgt := 72) dX1_measureUp_10 rfl (fun c1 => ?_) (fun c1 => ?_)
  ·
    exact wp_return dX1_measureUp_72 rfl ⟨rfl, rfl⟩ ⟨rfl, (h.1 c1)⟩
  ·
    refine wp_iconst dX1_measureUp_13 (by decide) ?_
    refine wp_istore_n dX1_measureUp_14 rfl (by decide) rfl ?_
    refine wp_aload_n dX1_measureUp_15 rfl rfl ?_
    refine wp_getI dX1_measureUp_16 fX1_54 rfl h0.1 (by decide) ?_
    refine wp_istore_n dX1_measureUp_19 rfl (by decide) rfl ?_
    exact (h.2 c1)
set_option maxHeartbeats 4000000 in
set_option maxRecDepth 10000 in
theorem sX1_measureUp_20 {K : KK} {d : Nat} {V : Mem} {Q : Option AV → Mem → Prop} (a0 : Nat) (x1 : Int) (x2 : Int) (x3 : Int) (h0 : IsChains a0) (h : ((x1 ≤ x3 → (((0 : Int) ≤ x1 ∧ x1 < (20 : Nat)) ∧ Wf K (d + 1) mX1_measureUp 5 [some (vR a0), some (vI (w32 (x1 + 1))), none, none] [] (upm V (a0 + 3) (Int.toNat x1) (w32 (x2 + 1))) Q)) ∧ (¬ (x1 ≤ x3) → (((0 : Int) ≤ x3 ∧ x3 < (20 : Nat)) ∧ (((V (a0 + 3) (Int.toNat x3)) ≤ x2 → Wf K (d + 1) mX1_measureUp 20 [some (vR a0), some (vI x1), some (vI x2), some (vI (w32 (x3 + 1)))] [] V Q) ∧ (¬ ((V (a0 + 3) (Int.toNat x3)) ≤ x2) → Mf K d mX1_follows [vR a0, vI x1, vI x3] V (fun r V3 => ∃ z3, r = some (vI z3) ∧ ((z3 = 0 → Wf K (d + 1) mX1_measureUp 20 [some (vR a0), some (vI x1), some (vI x2), some (vI (w32 (x3 + 1)))] [] V3 Q) ∧ (¬ (z3 = 0) → (((0 : Int) ≤ x3 ∧ x3 < (20 : Nat)) ∧ Wf K (d + 1) mX1_measureUp 20 [some (vR a0), some (vI x1), some (vI (V3 (a0 + 3) (Int.toNat x3))), some (vI (w32 (x3 + 1)))] [] V3 Q)))))))))) : Wf K (d + 1) mX1_measureUp 20 [some (vR a0), some (vI x1), some (vI x2), some (vI x3)] [] V Q := by
  refine wp_iload_n dX1_measureUp_20 rfl rfl ?_
  refine wp_iload_n dX1_measureUp_21 rfl rfl ?_
  refine wp_icmp_ge (tgt := 57) dX1_measureUp_22 rfl (fun c1 => ?_) (fun c1 => ?_)
  ·
    refine wp_aload_n dX1_measureUp_57 rfl rfl ?_
    refine wp_getR (b := (a0 + 3)) dX1_measureUp_58 fX1_18 rfl h0.1 (by decide) rfl ?_
    refine wp_iload_n dX1_measureUp_61 rfl rfl ?_
    refine wp_iload_n dX1_measureUp_62 rfl rfl ?_
    refine wp_iconst dX1_measureUp_63 (by decide) ?_
    refine wp_iadd dX1_measureUp_64 ?_
    refine wp_iast dX1_measureUp_65 h0.2.2.2.1 (h.1 c1).1 ?_
    refine wp_iinc dX1_measureUp_66 rfl rfl ?_
    refine wp_goto (tgt := 5) dX1_measureUp_69 rfl ?_
    exact wp_loc (L2 := [some (vR a0), some (vI (w32 (x1 + 1))), none, none]) ⟨rfl, ⟨rfl, trivial⟩⟩ (h.1 c1).2
  ·
    refine wp_aload_n dX1_measureUp_25 rfl rfl ?_
    refine wp_getR (b := (a0 + 3)) dX1_measureUp_26 fX1_18 rfl h0.1 (by decide) rfl ?_
    refine wp_iload_n dX1_measureUp_29 rfl rfl ?_
    refine wp_iald dX1_measureUp_30 h0.2.2.2.1 (h.2 c1).1 ?_
    refine wp_iload_n dX1_measureUp_31 rfl rfl ?_
    refine wp_icmp_le (tgt := 51) dX1_measureUp_32 rfl (fun c2 => ?_) (fun c2 => ?_)
    ·
      refine wp_iinc dX1_measureUp_51 rfl rfl ?_
      refine wp_goto (tgt := 20) dX1_measureUp_54 rfl ?_
      exact ((h.2 c1).2.1 c2)
    ·
      refine wp_aload_n dX1_measureUp_35 rfl rfl ?_
      refine wp_iload_n dX1_measureUp_36 rfl rfl ?_
      refine wp_iload_n dX1_measureUp_37 rfl rfl ?_
      refine wp_callV (S := []) (as := [vI x1, vI x3]) dX1_measureUp_38 lX1_60 (((h.2 c1).2.2 c2)) (by omega) h0.1 rfl rfl (Nat.le_of_ble_eq_true rfl) ⟨Nat.le_refl _, Nat.le_refl _⟩ ?_
      rintro _ _ V3 ⟨rfl, z3, rfl, q3⟩
      show Wp _ _ _ _ _ 41 _ [vI z3] _ _ _ _ _
      refine wp_if_eq (tgt := 51) dX1_measureUp_41 rfl (fun c4 => ?_) (fun c4 => ?_)
      ·
        refine wp_iinc dX1_measureUp_51 rfl rfl ?_
        refine wp_goto (tgt := 20) dX1_measureUp_54 rfl ?_
        exact (q3.1 c4)
      ·
        refine wp_aload_n dX1_measureUp_44 rfl rfl ?_
        refine wp_getR (b := (a0 + 3)) dX1_measureUp_45 fX1_18 rfl h0.1 (by decide) rfl ?_
        refine wp_iload_n dX1_measureUp_48 rfl rfl ?_
        refine wp_iald dX1_measureUp_49 h0.2.2.2.1 (q3.2 c4).1 ?_
        refine wp_istore_n dX1_measureUp_50 rfl (by decide) rfl ?_
        refine wp_iinc dX1_measureUp_51 rfl rfl ?_
        refine wp_goto (tgt := 20) dX1_measureUp_54 rfl ?_
        exact (q3.2 c4).2
set_option maxHeartbeats 4000000 in
set_option maxRecDepth 10000 in
theorem sX1_measureBehind {K : KK} {d : Nat} {V : Mem} {Q : Option AV → Mem → Prop} (a0 : Nat) (h0 : IsChains a0) (h : Wf K (d + 1) mX1_measureBehind 7 [some (vR a0), some (vI (w32 ((V a0 8) - 1))), none, none] [] V Q) : Mf K (d + 1) mX1_measureBehind [vR a0] V Q := by
  refine Mt.of2 (L := [some (vR a0), none, none, none]) pnX1 rfl rfl ?_
  refine wp_aload_n dX1_measureBehind_0 rfl rfl ?_
  refine wp_getI dX1_measureBehind_1 fX1_57 rfl h0.1 (by decide) ?_
  refine wp_iconst dX1_measureBehind_4 (by decide) ?_
  refine wp_isub dX1_measureBehind_5 ?_
  refine wp_istore_n dX1_measureBehind_6 rfl (by decide) rfl ?_
  exact h
set_option maxHeartbeats 4000000 in
set_option maxRecDepth 10000 in
theorem sX1_measureBehind_7 {K : KK} {d : Nat} {V : Mem} {Q : Option AV → Mem → Prop} (a0 : Nat) (x1 : Int) (h0 : IsChains a0) (h : ((x1 < (V a0 7) → Q none V) ∧ (¬ (x1 < (V a0 7)) → Wf K (d + 1) mX1_measureBehind 21 [some (vR a0), some (vI x1), some (vI 0), some (vI (w32 (x1 + 1)))] [] V Q))) : Wf K (d + 1) mX1_measureBehind 7 [some (vR a0), some (vI x1), none, none] [] V Q := by
  refine wp_iload_n dX1_measureBehind_7 rfl rfl ?_
  refine wp_aload_n dX1_measureBehind_8 rfl rfl ?_
  refine wp_getI dX1_measureBehind_9 fX1_54 rfl h0.1 (by decide) ?_
  refine wp_icmp_lt (tgt := 76) dX1_measureBehind_12 rfl (fun c1 => ?_) (fun c1 => ?_)
  ·
    exact wp_return dX1_measureBehind_76 rfl ⟨rfl, rfl⟩ ⟨rfl, (h.1 c1)⟩
  ·
    refine wp_iconst dX1_measureBehind_15 (by decide) ?_
    refine wp_istore_n dX1_measureBehind_16 rfl (by decide) rfl ?_
    refine wp_iload_n dX1_measureBehind_17 rfl rfl ?_
    refine wp_iconst dX1_measureBehind_18 (by decide) ?_
    refine wp_iadd dX1_measureBehind_19 ?_
    refine wp_istore_n dX1_measureBehind_20 rfl (by decide) rfl ?_
    exact (h.2 c1)
set_option maxHeartbeats 4000000 in
set_option maxRecDepth 10000 in
theorem sX1_measureBehind_21 {K : KK} {d : Nat} {V : Mem} {Q : Option AV → Mem → Prop} (a0 : Nat) (x1 : Int) (x2 : Int) (x3 : Int) (h0 : IsChains a0) (h : (((V a0 8) ≤ x3 → (((0 : Int) ≤ x1 ∧ x1 < (20 : Nat)) ∧ Wf K (d + 1) mX1_measureBehind 7 [some (vR a0), some (vI (w32 (x1 + (-1)))), none, none] [] (upm V (a0 + 2) (Int.toNat x1) (w32 (x2 + 1))) Q)) ∧ (¬ ((V a0 8) ≤ x3) → (((0 : Int) ≤ x3 ∧ x3 < (20 : Nat)) ∧ (((V (a0 + 2) (Int.toNat x3)) ≤ x2 → Wf K (d + 1) mX1_measureBehind 21 [some (vR a0), some (vI x1), some (vI x2), some (vI (w32 (x3 + 1)))] [] V Q) ∧ (¬ ((V (a0 + 2) (Int.toNat x3)) ≤ x2) → Mf K d mX1_follows [vR a0, vI x3, vI x1] V (fun r V3 => ∃ z3, r = some (vI z3) ∧ ((z3 = 0 → Wf K (d + 1) mX1_measureBehind 21 [some (vR a0), some (vI x1), some (vI x2), some (vI (w32 (x3 + 1)))] [] V3 Q) ∧ (¬ (z3 = 0) → (((0 : Int) ≤ x3 ∧ x3 < (20 : Nat)) ∧ Wf K (d + 1) mX1_measureBehind 21 [some (vR a0), some (vI x1), some (vI (V3 (a0 + 2) (Int.toNat x3))), some (vI (w32 (x3 + 1)))] [] V3 Q)))))))))) : Wf K (d + 1) mX1_measureBehind 21 [some (vR a0), some (vI x1), some (vI x2), some (vI x3)] [] V Q := by
  refine wp_iload_n dX1_measureBehind_21 rfl rfl ?_
  refine wp_aload_n dX1_measureBehind_22 rfl rfl ?_
  refine wp_getI dX1_measureBehind_23 fX1_57 rfl h0.1 (by decide) ?_
  refine wp_icmp_ge (tgt := 61) dX1_measureBehind_26 rfl (fun c1 => ?_) (fun c1 => ?_)
  ·
    refine wp_aload_n dX1_measureBehind_61 rfl rfl ?_
    refine wp_getR (b := (a0 + 2)) dX1_measureBehind_62 fX1_15 rfl h0.1 (by decide) rfl ?_
    refine wp_iload_n dX1_measureBehind_65 rfl rfl ?_
    refine wp_iload_n dX1_measureBehind_66 rfl rfl ?_
    refine wp_iconst dX1_measureBehind_67 (by decide) ?_
    refine wp_iadd dX1_measureBehind_68 ?_
    refine wp_iast dX1_measureBehind_69 h0.2.2.1 (h.1 c1).1 ?_
    refine wp_iinc dX1_measureBehind_70 rfl rfl ?_
    refine wp_goto (tgt := 7) dX1_measureBehind_73 rfl ?_
    exact wp_loc (L2 := [some (vR a0), some (vI (w32 (x1 + (-1)))), none, none]) ⟨rfl, ⟨rfl, trivial⟩⟩ (h.1 c1).2
  ·
    refine wp_aload_n dX1_measureBehind_29 rfl rfl ?_
    refine wp_getR (b := (a0 + 2)) dX1_measureBehind_30 fX1_15 rfl h0.1 (by decide) rfl ?_
    refine wp_iload_n dX1_measureBehind_33 rfl rfl ?_
    refine wp_iald dX1_measureBehind_34 h0.2.2.1 (h.2 c1).1 ?_
    refine wp_iload_n dX1_measureBehind_35 rfl rfl ?_
    refine wp_icmp_le (tgt := 55) dX1_measureBehind_36 rfl (fun c2 => ?_) (fun c2 => ?_)
    ·
      refine wp_iinc dX1_measureBehind_55 rfl rfl ?_
      refine wp_goto (tgt := 21) dX1_measureBehind_58 rfl ?_
      exact ((h.2 c1).2.1 c2)
    ·
      refine wp_aload_n dX1_measureBehind_39 rfl rfl ?_
      refine wp_iload_n dX1_measureBehind_40 rfl rfl ?_
      refine wp_iload_n dX1_measureBehind_41 rfl rfl ?_
      refine wp_callV (S := []) (as := [vI x3, vI x1]) dX1_measureBehind_42 lX1_60 (((h.2 c1).2.2 c2)) (by omega) h0.1 rfl rfl (Nat.le_of_ble_eq_true rfl) ⟨Nat.le_refl _, Nat.le_refl _⟩ ?_
      rintro _ _ V3 ⟨rfl, z3, rfl, q3⟩
      show Wp _ _ _ _ _ 45 _ [vI z3] _ _ _ _ _
      refine wp_if_eq (tgt := 55) dX1_measureBehind_45 rfl (fun c4 => ?_) (fun c4 => ?_)
      ·
        refine wp_iinc dX1_measureBehind_55 rfl rfl ?_
        refine wp_goto (tgt := 21) dX1_measureBehind_58 rfl ?_
        exact (q3.1 c4)
      ·
        refine wp_aload_n dX1_measureBehind_48 rfl rfl ?_
        refine wp_getR (b := (a0 + 2)) dX1_measureBehind_49 fX1_15 rfl h0.1 (by decide) rfl ?_
        refine wp_iload_n dX1_measureBehind_52 rfl rfl ?_
        refine wp_iald dX1_measureBehind_53 h0.2.2.1 (q3.2 c4).1 ?_
        refine wp_istore_n dX1_measureBehind_54 rfl (by decide) rfl ?_
        refine wp_iinc dX1_measureBehind_55 rfl rfl ?_
        refine wp_goto (tgt := 21) dX1_measureBehind_58 rfl ?_
        exact (q3.2 c4).2
set_option maxHeartbeats 4000000 in
set_option maxRecDepth 10000 in
theorem sX1_measure {K : KK} {d : Nat} {V : Mem} {Q : Option AV → Mem → Prop} (a0 : Nat) (x1 : Int) (x2 : Int) (h0 : IsChains a0) (h : Mf K d mX1_measureUp [vR a0] (upm (upm V a0 7 (max x1 0)) a0 8 (min x2 ((upm V a0 7 (max x1 0)) a0 4))) (fun r V1 => r = none ∧ Mf K d mX1_measureBehind [vR a0] V1 (fun r V2 => r = none ∧ Wf K (d + 1) mX1_measure 39 [some (vR a0), none, none, some (vI ((upm V2 a0 5 0) a0 7))] [] (upm V2 a0 5 0) Q))) : Mf K (d + 1) mX1_measure [vR a0, vI x1, vI x2] V Q := by
  refine Mt.of2 (L := [some (vR a0), some (vI x1), some (vI x2), none]) pnX1 rfl rfl ?_
  refine wp_aload_n dX1_measure_0 rfl rfl ?_
  refine wp_iload_n dX1_measure_1 rfl rfl ?_
  refine wp_iconst dX1_measure_2 (by decide) ?_
  refine wp_mmax dX1_measure_3 lX1_63 (by omega) (Nat.le_of_ble_eq_true rfl) ⟨Nat.le_refl _, Nat.le_refl _⟩ ?_
  refine wp_putI dX1_measure_6 fwX1_54 rfl h0.1 (by decide) ?_
  refine wp_aload_n dX1_measure_9 rfl rfl ?_
  refine wp_iload_n dX1_measure_10 rfl rfl ?_
  refine wp_aload_n dX1_measure_11 rfl rfl ?_
  refine wp_getI dX1_measure_12 fX1_36 rfl h0.1 (by decide) ?_
  refine wp_mmin dX1_measure_15 lX1_30 (by omega) (Nat.le_of_ble_eq_true rfl) ⟨Nat.le_refl _, Nat.le_refl _⟩ ?_
  refine wp_putI dX1_measure_18 fwX1_57 rfl h0.1 (by decide) ?_
  refine wp_aload_n dX1_measure_21 rfl rfl ?_
  refine wp_callV (S := []) (as := []) dX1_measure_22 lX1_66 (h) (by omega) h0.1 rfl rfl (Nat.le_of_ble_eq_true rfl) ⟨Nat.le_refl _, Nat.le_refl _⟩ ?_
  rintro _ _ V1 ⟨rfl, rfl, q1⟩
  show Wp _ _ _ _ _ 25 _ [] _ _ _ _ _
  refine wp_aload_n dX1_measure_25 rfl rfl ?_
  refine wp_callV (S := []) (as := []) dX1_measure_26 lX1_69 (q1) (by omega) h0.1 rfl rfl (Nat.le_of_ble_eq_true rfl) ⟨Nat.le_refl _, Nat.le_refl _⟩ ?_
  rintro _ _ V2 ⟨rfl, rfl, q2⟩
  show Wp _ _ _ _ _ 29 _ [] _ _ _ _ _
  refine wp_aload_n dX1_measure_29 rfl rfl ?_
  refine wp_iconst dX1_measure_30 (by decide) ?_
  refine wp_putI dX1_measure_31 fwX1_72 rfl h0.1 (by decide) ?_
  refine wp_aload_n dX1_measure_34 rfl rfl ?_
  refine wp_getI dX1_measure_35 fX1_54 rfl h0.1 (by decide) ?_
  refine wp_istore_n dX1_measure_38 rfl (by decide) rfl ?_
  exact wp_loc (L2 := [some (vR a0), none, none, some (vI ((upm V2 a0 5 0) a0 7))]) ⟨rfl, ⟨rfl, trivial⟩⟩ q2
set_option maxHeartbeats 4000000 in
set_option maxRecDepth 10000 in
theorem sX1_measure_39 {K : KK} {d : Nat} {V : Mem} {Q : Option AV → Mem → Prop} (a0 : Nat) (x3 : Int) (h0 : IsChains a0) (h : (((V a0 8) ≤ x3 → Q none V) ∧ (¬ ((V a0 8) ≤ x3) → (((0 : Int) ≤ x3 ∧ x3 < (20 : Nat)) ∧ Wf K (d + 1) mX1_measure 39 [some (vR a0), none, none, some (vI (w32 (x3 + 1)))] [] (upm V a0 5 (max (V a0 5) (V (a0 + 3) (Int.toNat x3)))) Q)))) : Wf K (d + 1) mX1_measure 39 [some (vR a0), none, none, some (vI x3)] [] V Q := by
  refine wp_iload_n dX1_measure_39 rfl rfl ?_
  refine wp_aload_n dX1_measure_40 rfl rfl ?_
  refine wp_getI dX1_measure_41 fX1_57 rfl h0.1 (by decide) ?_
  refine wp_icmp_ge (tgt := 70) dX1_measure_44 rfl (fun c1 => ?_) (fun c1 => ?_)
  ·
    exact wp_return dX1_measure_70 rfl ⟨rfl, rfl⟩ ⟨rfl, (h.1 c1)⟩
  ·
    refine wp_aload_n dX1_measure_47 rfl rfl ?_
    refine wp_aload_n dX1_measure_48 rfl rfl ?_
    refine wp_getI dX1_measure_49 fX1_72 rfl h0.1 (by decide) ?_
    refine wp_aload_n dX1_measure_52 rfl rfl ?_
    refine wp_getR (b := (a0 + 3)) dX1_measure_53 fX1_18 rfl h0.1 (by decide) rfl ?_
    refine wp_iload_n dX1_measure_56 rfl rfl ?_
    refine wp_iald dX1_measure_57 h0.2.2.2.1 (h.2 c1).1 ?_
    refine wp_mmax dX1_measure_58 lX1_63 (by omega) (Nat.le_of_ble_eq_true rfl) ⟨Nat.le_refl _, Nat.le_refl _⟩ ?_
    refine wp_putI dX1_measure_61 fwX1_72 rfl h0.1 (by decide) ?_
    refine wp_iinc dX1_measure_64 rfl rfl ?_
    refine wp_goto (tgt := 39) dX1_measure_67 rfl ?_
    exact (h.2 c1).2
set_option maxHeartbeats 4000000 in
set_option maxRecDepth 10000 in
theorem sX1_measureFrom {K : KK} {d : Nat} {V : Mem} {Q : Option AV → Mem → Prop} (a0 : Nat) (x1 : Int) (a2 n2 : Nat) (h0 : IsChains a0) (h2 : SH[a2]? = some (14, n2, [])) (g2 : n2 < 2147483648) (h : Mf K d mX1_measureUp [vR a0] (upm (upm V a0 7 (max x1 0)) a0 8 ((upm V a0 7 (max x1 0)) a0 4)) (fun r V1 => r = none ∧ Wf K (d + 1) mX1_measureFrom 29 [some (vR a0), none, some (vR a2), some (vI 0), some (vI (V1 a0 7))] [] V1 Q)) : Mf K (d + 1) mX1_measureFrom [vR a0, vI x1, vR a2] V Q := by
  refine Mt.of2 (L := [some (vR a0), some (vI x1), some (vR a2), none, none]) pnX1 rfl rfl ?_
  refine wp_aload_n dX1_measureFrom_0 rfl rfl ?_
  refine wp_iload_n dX1_measureFrom_1 rfl rfl ?_
  refine wp_iconst dX1_measureFrom_2 (by decide) ?_
  refine wp_mmax dX1_measureFrom_3 lX1_63 (by omega) (Nat.le_of_ble_eq_true rfl) ⟨Nat.le_refl _, Nat.le_refl _⟩ ?_
  refine wp_putI dX1_measureFrom_6 fwX1_54 rfl h0.1 (by decide) ?_
  refine wp_aload_n dX1_measureFrom_9 rfl rfl ?_
  refine wp_aload_n dX1_measureFrom_10 rfl rfl ?_
  refine wp_getI dX1_measureFrom_11 fX1_36 rfl h0.1 (by decide) ?_
  refine wp_putI dX1_measureFrom_14 fwX1_57 rfl h0.1 (by decide) ?_
  refine wp_aload_n dX1_measureFrom_17 rfl rfl ?_
  refine wp_callV (S := []) (as := []) dX1_measureFrom_18 lX1_66 (h) (by omega) h0.1 rfl rfl (Nat.le_of_ble_eq_true rfl) ⟨Nat.le_refl _, Nat.le_refl _⟩ ?_
  rintro _ _ V1 ⟨rfl, rfl, q1⟩
  show Wp _ _ _ _ _ 21 _ [] _ _ _ _ _
  refine wp_iconst dX1_measureFrom_21 (by decide) ?_
  refine wp_istore_n dX1_measureFrom_22 rfl (by decide) rfl ?_
  refine wp_aload_n dX1_measureFrom_23 rfl rfl ?_
  refine wp_getI dX1_measureFrom_24 fX1_54 rfl h0.1 (by decide) ?_
  refine wp_istore dX1_measureFrom_27 (by decide) rfl ?_
  exact wp_loc (L2 := [some (vR a0), none, some (vR a2), some (vI 0), some (vI (V1 a0 7))]) ⟨rfl, ⟨rfl, ⟨rfl, ⟨rfl, trivial⟩⟩⟩⟩ q1
set_option maxHeartbeats 4000000 in
set_option maxRecDepth 10000 in
theorem sX1_measureFrom_29 {K : KK} {d : Nat} {V : Mem} {Q : Option AV → Mem → Prop} (a0 : Nat) (a2 n2 : Nat) (x3 : Int) (x4 : Int) (h0 : IsChains a0) (h2 : SH[a2]? = some (14, n2, [])) (g2 : n2 < 2147483648) (h : (((V a0 8) < x4 → Q none V) ∧ (¬ ((V a0 8) < x4) → (((n2 : Nat) ≤ x4 → Q none V) ∧ (¬ ((n2 : Nat) ≤ x4) → (((0 : Int) ≤ x4 ∧ x4 < (n2 : Nat)) ∧ ((((upm V a2 (Int.toNat x4) x3) a0 8) ≤ x4 → Wf K (d + 1) mX1_measureFrom 29 [some (vR a0), none, some (vR a2), some (vI x3), some (vI (w32 (x4 + 1)))] [] (upm V a2 (Int.toNat x4) x3) Q) ∧ (¬ (((upm V a2 (Int.toNat x4) x3) a0 8) ≤ x4) → (((0 : Int) ≤ x4 ∧ x4 < (20 : Nat)) ∧ Wf K (d + 1) mX1_measureFrom 29 [some (vR a0), none, some (vR a2), some (vI (max x3 ((upm V a2 (Int.toNat x4) x3) (a0 + 3) (Int.toNat x4)))), some (vI (w32 (x4 + 1)))] [] (upm V a2 (Int.toNat x4) x3) Q))))))))) : Wf K (d + 1) mX1_measureFrom 29 [some (vR a0), none, some (vR a2), some (vI x3), some (vI x4)] [] V Q := by
  refine wp_iload dX1_measureFrom_29 rfl ?_
  refine wp_aload_n dX1_measureFrom_31 rfl rfl ?_
  refine wp_getI dX1_measureFrom_32 fX1_57 rfl h0.1 (by decide) ?_
  refine wp_icmp_gt (tgt := 77) dX1_measureFrom_35 rfl (fun c1 => ?_) (fun c1 => ?_)
  ·
    exact wp_return dX1_measureFrom_77 rfl ⟨rfl, rfl⟩ ⟨rfl, (h.1 c1)⟩
  ·
    refine wp_iload dX1_measureFrom_38 rfl ?_
    refine wp_aload_n dX1_measureFrom_40 rfl rfl ?_
    refine wp_alen dX1_measureFrom_41 h2 (by decide) g2 ?_
    refine wp_icmp_ge (tgt := 77) dX1_measureFrom_42 rfl (fun c2 => ?_) (fun c2 => ?_)
    ·
      exact wp_return dX1_measureFrom_77 rfl ⟨rfl, rfl⟩ ⟨rfl, ((h.2 c1).1 c2)⟩
    ·
      refine wp_aload_n dX1_measureFrom_45 rfl rfl ?_
      refine wp_iload dX1_measureFrom_46 rfl ?_
      refine wp_iload_n dX1_measureFrom_48 rfl rfl ?_
      refine wp_iast dX1_measureFrom_49 h2 ((h.2 c1).2 c2).1 ?_
      refine wp_iload dX1_measureFrom_50 rfl ?_
      refine wp_aload_n dX1_measureFrom_52 rfl rfl ?_
      refine wp_getI dX1_measureFrom_53 fX1_57 rfl h0.1 (by decide) ?_
      refine wp_icmp_ge (tgt := 71) dX1_measureFrom_56 rfl (fun c3 => ?_) (fun c3 => ?_)
      ·
        refine wp_iinc dX1_measureFrom_71 rfl rfl ?_
        refine wp_goto (tgt := 29) dX1_measureFrom_74 rfl ?_
        exact (((h.2 c1).2 c2).2.1 c3)
      ·
        refine wp_iload_n dX1_measureFrom_59 rfl rfl ?_
        refine wp_aload_n dX1_measureFrom_60 rfl rfl ?_
        refine wp_getR (b := (a0 + 3)) dX1_measureFrom_61 fX1_18 rfl h0.1 (by decide) rfl ?_
        refine wp_iload dX1_measureFrom_64 rfl ?_
        refine wp_iald dX1_measureFrom_66 h0.2.2.2.1 (((h.2 c1).2 c2).2.2 c3).1 ?_
        refine wp_mmax dX1_measureFrom_67 lX1_63 (by omega) (Nat.le_of_ble_eq_true rfl) ⟨Nat.le_refl _, Nat.le_refl _⟩ ?_
        refine wp_istore_n dX1_measureFrom_70 rfl (by decide) rfl ?_
        refine wp_iinc dX1_measureFrom_71 rfl rfl ?_
        refine wp_goto (tgt := 29) dX1_measureFrom_74 rfl ?_
        exact (((h.2 c1).2 c2).2.2 c3).2
set_option maxHeartbeats 4000000 in
set_option maxRecDepth 10000 in
theorem sX1_placeOfFirst {K : KK} {d : Nat} {V : Mem} {Q : Option AV → Mem → Prop} (a0 : Nat) (x1 : Int) (h0 : IsChains a0) (h : ((x1 < 0 → Q (some (vI (-1))) V) ∧ (¬ (x1 < 0) → ((x1 < (V a0 5) → Wf K (d + 1) mX1_placeOfFirst 27 [some (vR a0), some (vI x1), some (vI (-1)), some (vI (V a0 5)), some (vI (V a0 7))] [] V Q) ∧ (¬ (x1 < (V a0 5)) → Q (some (vI (-1))) V))))) : Mf K (d + 1) mX1_placeOfFirst [vR a0, vI x1] V Q := by
  refine Mt.of2 (L := [some (vR a0), some (vI x1), none, none, none]) pnX1 rfl rfl ?_
  refine wp_iload_n dX1_placeOfFirst_0 rfl rfl ?_
  refine wp_if_lt (tgt := 12) dX1_placeOfFirst_1 rfl (fun c1 => ?_) (fun c1 => ?_)
  ·
    refine wp_iconst dX1_placeOfFirst_12 (by decide) ?_
    exact wp_ireturn dX1_placeOfFirst_13 rfl ⟨rfl, rfl⟩ ⟨rfl, (h.1 c1)⟩
  ·
    refine wp_iload_n dX1_placeOfFirst_4 rfl rfl ?_
    refine wp_aload_n dX1_placeOfFirst_5 rfl rfl ?_
    refine wp_getI dX1_placeOfFirst_6 fX1_72 rfl h0.1 (by decide) ?_
    refine wp_icmp_lt (tgt := 14) dX1_placeOfFirst_9 rfl (fun c2 => ?_) (fun c2 => ?_)
    ·
      refine wp_iconst dX1_placeOfFirst_14 (by decide) ?_
      refine wp_istore_n dX1_placeOfFirst_15 rfl (by decide) rfl ?_
      refine wp_aload_n dX1_placeOfFirst_16 rfl rfl ?_
      refine wp_getI dX1_placeOfFirst_17 fX1_72 rfl h0.1 (by decide) ?_
      refine wp_istore_n dX1_placeOfFirst_20 rfl (by decide) rfl ?_
      refine wp_aload_n dX1_placeOfFirst_21 rfl rfl ?_
      refine wp_getI dX1_placeOfFirst_22 fX1_54 rfl h0.1 (by decide) ?_
      refine wp_istore dX1_placeOfFirst_25 (by decide) rfl ?_
      exact ((h.2 c1).1 c2)
    ·
      refine wp_iconst dX1_placeOfFirst_12 (by decide) ?_
      exact wp_ireturn dX1_placeOfFirst_13 rfl ⟨rfl, rfl⟩ ⟨rfl, ((h.2 c1).2 c2)⟩
set_option maxHeartbeats 4000000 in
set_option maxRecDepth 10000 in
theorem sX1_placeOfFirst_27 {K : KK} {d : Nat} {V : Mem} {Q : Option AV → Mem → Prop} (a0 : Nat) (x1 : Int) (x2 : Int) (x3 : Int) (x4 : Int) (h0 : IsChains a0) (h : (((V a0 8) ≤ x4 → Q (some (vI (-1))) V) ∧ (¬ ((V a0 8) ≤ x4) → (((0 : Int) ≤ x4 ∧ x4 < (20 : Nat)) ∧ ((¬ (V (a0 + 2) (Int.toNat x4)) = x3 → Wf K (d + 1) mX1_placeOfFirst 27 [some (vR a0), some (vI x1), some (vI x2), some (vI x3), some (vI (w32 (x4 + 1)))] [] V Q) ∧ ((V (a0 + 2) (Int.toNat x4)) = x3 → ((x2 = (-1) → ((¬ (w32 ((V a0 5) - x3)) = x1 → Wf K (d + 1) mX1_placeOfFirst 27 [some (vR a0), some (vI x1), some (vI x4), some (vI (w32 (x3 + (-1)))), some (vI (w32 (x4 + 1)))] [] V Q) ∧ ((w32 ((V a0 5) - x3)) = x1 → Q (some (vI x4)) V))) ∧ (¬ (x2 = (-1)) → Mf K d mX1_follows [vR a0, vI x4, vI x2] V (fun r V5 => ∃ z5, r = some (vI z5) ∧ ((z5 = 0 → Wf K (d + 1) mX1_placeOfFirst 27 [some (vR a0), some (vI x1), some (vI x2), some (vI x3), some (vI (w32 (x4 + 1)))] [] V5 Q) ∧ (¬ (z5 = 0) → ((¬ (w32 ((V5 a0 5) - x3)) = x1 → Wf K (d + 1) mX1_placeOfFirst 27 [some (vR a0), some (vI x1), some (vI x4), some (vI (w32 (x3 + (-1)))), some (vI (w32 (x4 + 1)))] [] V5 Q) ∧ ((w32 ((V5 a0 5) - x3)) = x1 → Q (some (vI x4)) V5))))))))))))) : Wf K (d + 1) mX1_placeOfFirst 27 [some (vR a0), some (vI x1), some (vI x2), some (vI x3), some (vI x4)] [] V Q := by
  refine wp_iload dX1_placeOfFirst_27 rfl ?_
  refine wp_aload_n dX1_placeOfFirst_29 rfl rfl ?_
  refine wp_getI dX1_placeOfFirst_30 fX1_57 rfl h0.1 (by decide) ?_
  refine wp_icmp_ge (tgt := 87) dX1_placeOfFirst_33 rfl (fun c1 => ?_) (fun c1 => ?_)
  ·
    refine wp_iconst dX1_placeOfFirst_87 (by decide) ?_
    exact wp_ireturn dX1_placeOfFirst_88 rfl ⟨rfl, rfl⟩ ⟨rfl, (h.1 c1)⟩
  ·
    refine wp_aload_n dX1_placeOfFirst_36 rfl rfl ?_
    refine wp_getR (b := (a0 + 2)) dX1_placeOfFirst_37 fX1_15 rfl h0.1 (by decide) rfl ?_
    refine wp_iload dX1_placeOfFirst_40 rfl ?_
    refine wp_iald dX1_placeOfFirst_42 h0.2.2.1 (h.2 c1).1 ?_
    refine wp_iload_n dX1_placeOfFirst_43 rfl rfl ?_
    refine wp_icmp_ne (tgt := 81) dX1_placeOfFirst_44 rfl (fun c2 => ?_) (fun c2 => ?_)
    ·
      refine wp_iinc dX1_placeOfFirst_81 rfl rfl ?_
      refine wp_goto (tgt := 27) dX1_placeOfFirst_84 rfl ?_
      exact ((h.2 c1).2.1 c2)
    ·
      refine wp_iload_n dX1_placeOfFirst_47 rfl rfl ?_
      refine wp_iconst dX1_placeOfFirst_48 (by decide) ?_
      refine wp_icmp_eq (tgt := 62) dX1_placeOfFirst_49 rfl (fun c3 => ?_) (fun c3 => ?_)
      ·
        refine wp_aload_n dX1_placeOfFirst_62 rfl rfl ?_
        refine wp_getI dX1_placeOfFirst_63 fX1_72 rfl h0.1 (by decide) ?_
        refine wp_iload_n dX1_placeOfFirst_66 rfl rfl ?_
        refine wp_isub dX1_placeOfFirst_67 ?_
        refine wp_iload_n dX1_placeOfFirst_68 rfl rfl ?_
        refine wp_icmp_ne (tgt := 75) dX1_placeOfFirst_69 rfl (fun c4 => ?_) (fun c4 => ?_)
        ·
          refine wp_iload dX1_placeOfFirst_75 rfl ?_
          refine wp_istore_n dX1_placeOfFirst_77 rfl (by decide) rfl ?_
          refine wp_iinc dX1_placeOfFirst_78 rfl rfl ?_
          refine wp_iinc dX1_placeOfFirst_81 rfl rfl ?_
          refine wp_goto (tgt := 27) dX1_placeOfFirst_84 rfl ?_
          exact ((((h.2 c1).2.2 c2).1 c3).1 c4)
        ·
          refine wp_iload dX1_placeOfFirst_72 rfl ?_
          exact wp_ireturn dX1_placeOfFirst_74 rfl ⟨rfl, rfl⟩ ⟨rfl, ((((h.2 c1).2.2 c2).1 c3).2 c4)⟩
      ·
        refine wp_aload_n dX1_placeOfFirst_52 rfl rfl ?_
        refine wp_iload dX1_placeOfFirst_53 rfl ?_
        refine wp_iload_n dX1_placeOfFirst_55 rfl rfl ?_
        refine wp_callV (S := []) (as := [vI x4, vI x2]) dX1_placeOfFirst_56 lX1_60 ((((h.2 c1).2.2 c2).2 c3)) (by omega) h0.1 rfl rfl (Nat.le_of_ble_eq_true rfl) ⟨Nat.le_refl _, Nat.le_refl _⟩ ?_
        rintro _ _ V5 ⟨rfl, z5, rfl, q5⟩
        show Wp _ _ _ _ _ 59 _ [vI z5] _ _ _ _ _
        refine wp_if_eq (tgt := 81) dX1_placeOfFirst_59 rfl (fun c6 => ?_) (fun c6 => ?_)
        ·
          refine wp_iinc dX1_placeOfFirst_81 rfl rfl ?_
          refine wp_goto (tgt := 27) dX1_placeOfFirst_84 rfl ?_
          exact (q5.1 c6)
        ·
          refine wp_aload_n dX1_placeOfFirst_62 rfl rfl ?_
          refine wp_getI dX1_placeOfFirst_63 fX1_72 rfl h0.1 (by decide) ?_
          refine wp_iload_n dX1_placeOfFirst_66 rfl rfl ?_
          refine wp_isub dX1_placeOfFirst_67 ?_
          refine wp_iload_n dX1_placeOfFirst_68 rfl rfl ?_
          refine wp_icmp_ne (tgt := 75) dX1_placeOfFirst_69 rfl (fun c7 => ?_) (fun c7 => ?_)
          ·
            refine wp_iload dX1_placeOfFirst_75 rfl ?_
            refine wp_istore_n dX1_placeOfFirst_77 rfl (by decide) rfl ?_
            refine wp_iinc dX1_placeOfFirst_78 rfl rfl ?_
            refine wp_iinc dX1_placeOfFirst_81 rfl rfl ?_
            refine wp_goto (tgt := 27) dX1_placeOfFirst_84 rfl ?_
            exact ((q5.2 c6).1 c7)
          ·
            refine wp_iload dX1_placeOfFirst_72 rfl ?_
            exact wp_ireturn dX1_placeOfFirst_74 rfl ⟨rfl, rfl⟩ ⟨rfl, ((q5.2 c6).2 c7)⟩
set_option maxHeartbeats 4000000 in
set_option maxRecDepth 10000 in
theorem sX1_countWays {K : KK} {d : Nat} {V : Mem} {Q : Option AV → Mem → Prop} (a0 : Nat) (h0 : IsChains a0) (h : ((¬ (V a0 5) = 0 → Wf K (d + 1) mX1_countWays 18 [some (vR a0), some (vJ 0), none, some (vI (w32 ((V a0 8) - 1)))] [] V Q) ∧ ((V a0 5) = 0 → Q (some (vI 1)) V))) : Mf K (d + 1) mX1_countWays [vR a0] V Q := by
  refine Mt.of2 (L := [some (vR a0), none, none, none]) pnX1 rfl rfl ?_
  refine wp_aload_n dX1_countWays_0 rfl rfl ?_
  refine wp_getI dX1_countWays_1 fX1_72 rfl h0.1 (by decide) ?_
  refine wp_if_ne (tgt := 9) dX1_countWays_4 rfl (fun c1 => ?_) (fun c1 => ?_)
  ·
    refine wp_lconst dX1_countWays_9 rfl ?_
    refine wp_lstore_n dX1_countWays_10 rfl (by decide) rfl ?_
    refine wp_aload_n dX1_countWays_11 rfl rfl ?_
    refine wp_getI dX1_countWays_12 fX1_57 rfl h0.1 (by decide) ?_
    refine wp_iconst dX1_countWays_15 (by decide) ?_
    refine wp_isub dX1_countWays_16 ?_
    refine wp_istore_n dX1_countWays_17 rfl (by decide) rfl ?_
    exact (h.1 c1)
  ·
    refine wp_iconst dX1_countWays_7 (by decide) ?_
    exact wp_ireturn dX1_countWays_8 rfl ⟨rfl, rfl⟩ ⟨rfl, (h.2 c1)⟩
set_option maxHeartbeats 4000000 in
set_option maxRecDepth 10000 in
theorem sX1_countWays_18 {K : KK} {d : Nat} {V : Mem} {Q : Option AV → Mem → Prop} (a0 : Nat) (j1 : Int) (x3 : Int) (h0 : IsChains a0) (h : ((x3 < (V a0 7) → Q (some (vI (w32 (min j1 2000000000)))) V) ∧ (¬ (x3 < (V a0 7)) → Mf K d mX1_waysOn [vR a0, vI x3] V (fun r V2 => ∃ z2, r = some (vI z2) ∧ (((0 : Int) ≤ x3 ∧ x3 < (20 : Nat)) ∧ (((0 : Int) ≤ x3 ∧ x3 < (20 : Nat)) ∧ ((¬ ((upm V2 (a0 + 4) (Int.toNat x3) z2) (a0 + 2) (Int.toNat x3)) = ((upm V2 (a0 + 4) (Int.toNat x3) z2) a0 5) → Wf K (d + 1) mX1_countWays 18 [some (vR a0), some (vJ j1), none, some (vI (w32 (x3 + (-1))))] [] (upm V2 (a0 + 4) (Int.toNat x3) z2) Q) ∧ (((upm V2 (a0 + 4) (Int.toNat x3) z2) (a0 + 2) (Int.toNat x3)) = ((upm V2 (a0 + 4) (Int.toNat x3) z2) a0 5) → (((0 : Int) ≤ x3 ∧ x3 < (20 : Nat)) ∧ Wf K (d + 1) mX1_countWays 18 [some (vR a0), some (vJ (w64 (j1 + ((upm V2 (a0 + 4) (Int.toNat x3) z2) (a0 + 4) (Int.toNat x3))))), none, some (vI (w32 (x3 + (-1))))] [] (upm V2 (a0 + 4) (Int.toNat x3) z2) Q))))))))) : Wf K (d + 1) mX1_countWays 18 [some (vR a0), some (vJ j1), none, some (vI x3)] [] V Q := by
  refine wp_iload_n dX1_countWays_18 rfl rfl ?_
  refine wp_aload_n dX1_countWays_19 rfl rfl ?_
  refine wp_getI dX1_countWays_20 fX1_54 rfl h0.1 (by decide) ?_
  refine wp_icmp_lt (tgt := 66) dX1_countWays_23 rfl (fun c1 => ?_) (fun c1 => ?_)
  ·
    refine wp_lload_n dX1_countWays_66 rfl rfl ?_
    refine wp_ldc2 (z := 2000000000) dX1_countWays_67 kX1_79 (by decide) ?_
    refine wp_minl dX1_countWays_70 lX1_81 (by omega) (Nat.le_of_ble_eq_true rfl) ⟨Nat.le_refl _, Nat.le_refl _⟩ ?_
    refine wp_l2i dX1_countWays_73 ?_
    exact wp_ireturn dX1_countWays_74 rfl ⟨rfl, rfl⟩ ⟨rfl, (h.1 c1)⟩
  ·
    refine wp_aload_n dX1_countWays_26 rfl rfl ?_
    refine wp_getR (b := (a0 + 4)) dX1_countWays_27 fX1_21 rfl h0.1 (by decide) rfl ?_
    refine wp_iload_n dX1_countWays_30 rfl rfl ?_
    refine wp_aload_n dX1_countWays_31 rfl rfl ?_
    refine wp_iload_n dX1_countWays_32 rfl rfl ?_
    refine wp_callV (S := [vI x3, vR (a0 + 4)]) (as := [vI x3]) dX1_countWays_33 lX1_75 ((h.2 c1)) (by omega) h0.1 rfl rfl (Nat.le_of_ble_eq_true rfl) ⟨Nat.le_refl _, Nat.le_refl _⟩ ?_
    rintro _ _ V2 ⟨rfl, z2, rfl, q2⟩
    show Wp _ _ _ _ _ 36 _ [vI z2, vI x3, vR (a0 + 4)] _ _ _ _ _
    refine wp_iast dX1_countWays_36 h0.2.2.2.2 q2.1 ?_
    refine wp_aload_n dX1_countWays_37 rfl rfl ?_
    refine wp_getR (b := (a0 + 2)) dX1_countWays_38 fX1_15 rfl h0.1 (by decide) rfl ?_
    refine wp_iload_n dX1_countWays_41 rfl rfl ?_
    refine wp_iald dX1_countWays_42 h0.2.2.1 q2.2.1 ?_
    refine wp_aload_n dX1_countWays_43 rfl rfl ?_
    refine wp_getI dX1_countWays_44 fX1_72 rfl h0.1 (by decide) ?_
    refine wp_icmp_ne (tgt := 60) dX1_countWays_47 rfl (fun c3 => ?_) (fun c3 => ?_)
    ·
      refine wp_iinc dX1_countWays_60 rfl rfl ?_
      refine wp_goto (tgt := 18) dX1_countWays_63 rfl ?_
      exact (q2.2.2.1 c3)
    ·
      refine wp_lload_n dX1_countWays_50 rfl rfl ?_
      refine wp_aload_n dX1_countWays_51 rfl rfl ?_
      refine wp_getR (b := (a0 + 4)) dX1_countWays_52 fX1_21 rfl h0.1 (by decide) rfl ?_
      refine wp_iload_n dX1_countWays_55 rfl rfl ?_
      refine wp_iald dX1_countWays_56 h0.2.2.2.2 (q2.2.2.2 c3).1 ?_
      refine wp_i2l dX1_countWays_57 ?_
      refine wp_ladd dX1_countWays_58 ?_
      refine wp_lstore_n dX1_countWays_59 rfl (by decide) rfl ?_
      refine wp_iinc dX1_countWays_60 rfl rfl ?_
      refine wp_goto (tgt := 18) dX1_countWays_63 rfl ?_
      exact (q2.2.2.2 c3).2
set_option maxHeartbeats 4000000 in
set_option maxRecDepth 10000 in
theorem sX1_waysOn {K : KK} {d : Nat} {V : Mem} {Q : Option AV → Mem → Prop} (a0 : Nat) (x1 : Int) (h0 : IsChains a0) (h : (((0 : Int) ≤ x1 ∧ x1 < (20 : Nat)) ∧ ((¬ (V (a0 + 2) (Int.toNat x1)) = 1 → Wf K (d + 1) mX1_waysOn 19 [some (vR a0), some (vI x1), some (vJ 0), none, some (vI (w32 (x1 + 1)))] [] V Q) ∧ ((V (a0 + 2) (Int.toNat x1)) = 1 → Q (some (vI 1)) V)))) : Mf K (d + 1) mX1_waysOn [vR a0, vI x1] V Q := by
  refine Mt.of2 (L := [some (vR a0), some (vI x1), none, none, none]) pnX1 rfl rfl ?_
  refine wp_aload_n dX1_waysOn_0 rfl rfl ?_
  refine wp_getR (b := (a0 + 2)) dX1_waysOn_1 fX1_15 rfl h0.1 (by decide) rfl ?_
  refine wp_iload_n dX1_waysOn_4 rfl rfl ?_
  refine wp_iald dX1_waysOn_5 h0.2.2.1 h.1 ?_
  refine wp_iconst dX1_waysOn_6 (by decide) ?_
  refine wp_icmp_ne (tgt := 12) dX1_waysOn_7 rfl (fun c1 => ?_) (fun c1 => ?_)
  ·
    refine wp_lconst dX1_waysOn_12 rfl ?_
    refine wp_lstore_n dX1_waysOn_13 rfl (by decide) rfl ?_
    refine wp_iload_n dX1_waysOn_14 rfl rfl ?_
    refine wp_iconst dX1_waysOn_15 (by decide) ?_
    refine wp_iadd dX1_waysOn_16 ?_
    refine wp_istore dX1_waysOn_17 (by decide) rfl ?_
    exact (h.2.1 c1)
  ·
    refine wp_iconst dX1_waysOn_10 (by decide) ?_
    exact wp_ireturn dX1_waysOn_11 rfl ⟨rfl, rfl⟩ ⟨rfl, (h.2.2 c1)⟩
set_option maxHeartbeats 4000000 in
set_option maxRecDepth 10000 in
theorem sX1_waysOn_19 {K : KK} {d : Nat} {V : Mem} {Q : Option AV → Mem → Prop} (a0 : Nat) (x1 : Int) (j2 : Int) (x4 : Int) (h0 : IsChains a0) (h : (((V a0 8) ≤ x4 → Q (some (vI (w32 (min j2 2000000000)))) V) ∧ (¬ ((V a0 8) ≤ x4) → (((0 : Int) ≤ x4 ∧ x4 < (20 : Nat)) ∧ (((0 : Int) ≤ x1 ∧ x1 < (20 : Nat)) ∧ ((¬ (V (a0 + 2) (Int.toNat x4)) = (w32 ((V (a0 + 2) (Int.toNat x1)) - 1)) → Wf K (d + 1) mX1_waysOn 19 [some (vR a0), some (vI x1), some (vJ j2), none, some (vI (w32 (x4 + 1)))] [] V Q) ∧ ((V (a0 + 2) (Int.toNat x4)) = (w32 ((V (a0 + 2) (Int.toNat x1)) - 1)) → Mf K d mX1_follows [vR a0, vI x4, vI x1] V (fun r V3 => ∃ z3, r = some (vI z3) ∧ ((z3 = 0 → Wf K (d + 1) mX1_waysOn 19 [some (vR a0), some (vI x1), some (vJ j2), none, some (vI (w32 (x4 + 1)))] [] V3 Q) ∧ (¬ (z3 = 0) → (((0 : Int) ≤ x4 ∧ x4 < (20 : Nat)) ∧ Wf K (d + 1) mX1_waysOn 19 [some (vR a0), some (vI x1), some (vJ (w64 (j2 + (V3 (a0 + 4) (Int.toNat x4))))), none, some (vI (w32 (x4 + 1)))] [] V3 Q))))))))))) : Wf K (d + 1) mX1_waysOn 19 [some (vR a0), some (vI x1), some (vJ j2), none, some (vI x4)] [] V Q := by
  refine wp_iload dX1_waysOn_19 rfl ?_
  refine wp_aload_n dX1_waysOn_21 rfl rfl ?_
  refine wp_getI dX1_waysOn_22 fX1_57 rfl h0.1 (by decide) ?_
  refine wp_icmp_ge (tgt := 73) dX1_waysOn_25 rfl (fun c1 => ?_) (fun c1 => ?_)
  ·
    refine wp_lload_n dX1_waysOn_73 rfl rfl ?_
    refine wp_ldc2 (z := 2000000000) dX1_waysOn_74 kX1_79 (by decide) ?_
    refine wp_minl dX1_waysOn_77 lX1_81 (by omega) (Nat.le_of_ble_eq_true rfl) ⟨Nat.le_refl _, Nat.le_refl _⟩ ?_
    refine wp_l2i dX1_waysOn_80 ?_
    exact wp_ireturn dX1_waysOn_81 rfl ⟨rfl, rfl⟩ ⟨rfl, (h.1 c1)⟩
  ·
    refine wp_aload_n dX1_waysOn_28 rfl rfl ?_
    refine wp_getR (b := (a0 + 2)) dX1_waysOn_29 fX1_15 rfl h0.1 (by decide) rfl ?_
    refine wp_iload dX1_waysOn_32 rfl ?_
    refine wp_iald dX1_waysOn_34 h0.2.2.1 (h.2 c1).1 ?_
    refine wp_aload_n dX1_waysOn_35 rfl rfl ?_
    refine wp_getR (b := (a0 + 2)) dX1_waysOn_36 fX1_15 rfl h0.1 (by decide) rfl ?_
    refine wp_iload_n dX1_waysOn_39 rfl rfl ?_
    refine wp_iald dX1_waysOn_40 h0.2.2.1 (h.2 c1).2.1 ?_
    refine wp_iconst dX1_waysOn_41 (by decide) ?_
    refine wp_isub dX1_waysOn_42 ?_
    refine wp_icmp_ne (tgt := 67) dX1_waysOn_43 rfl (fun c2 => ?_) (fun c2 => ?_)
    ·
      refine wp_iinc dX1_waysOn_67 rfl rfl ?_
      refine wp_goto (tgt := 19) dX1_waysOn_70 rfl ?_
      exact ((h.2 c1).2.2.1 c2)
    ·
      refine wp_aload_n dX1_waysOn_46 rfl rfl ?_
      refine wp_iload dX1_waysOn_47 rfl ?_
      refine wp_iload_n dX1_waysOn_49 rfl rfl ?_
      refine wp_callV (S := []) (as := [vI x4, vI x1]) dX1_waysOn_50 lX1_60 (((h.2 c1).2.2.2 c2)) (by omega) h0.1 rfl rfl (Nat.le_of_ble_eq_true rfl) ⟨Nat.le_refl _, Nat.le_refl _⟩ ?_
      rintro _ _ V3 ⟨rfl, z3, rfl, q3⟩
      show Wp _ _ _ _ _ 53 _ [vI z3] _ _ _ _ _
      refine wp_if_eq (tgt := 67) dX1_waysOn_53 rfl (fun c4 => ?_) (fun c4 => ?_)
      ·
        refine wp_iinc dX1_waysOn_67 rfl rfl ?_
        refine wp_goto (tgt := 19) dX1_waysOn_70 rfl ?_
        exact (q3.1 c4)
      ·
        refine wp_lload_n dX1_waysOn_56 rfl rfl ?_
        refine wp_aload_n dX1_waysOn_57 rfl rfl ?_
        refine wp_getR (b := (a0 + 4)) dX1_waysOn_58 fX1_21 rfl h0.1 (by decide) rfl ?_
        refine wp_iload dX1_waysOn_61 rfl ?_
        refine wp_iald dX1_waysOn_63 h0.2.2.2.2 (q3.2 c4).1 ?_
        refine wp_i2l dX1_waysOn_64 ?_
        refine wp_ladd dX1_waysOn_65 ?_
        refine wp_lstore_n dX1_waysOn_66 rfl (by decide) rfl ?_
        refine wp_iinc dX1_waysOn_67 rfl rfl ?_
        refine wp_goto (tgt := 19) dX1_waysOn_70 rfl ?_
        exact (q3.2 c4).2
set_option maxHeartbeats 4000000 in
set_option maxRecDepth 10000 in
theorem sX1_isOnLongest {K : KK} {d : Nat} {V : Mem} {Q : Option AV → Mem → Prop} (a0 : Nat) (x1 : Int) (h0 : IsChains a0) (h : (((0 : Int) ≤ x1 ∧ x1 < (20 : Nat)) ∧ (((0 : Int) ≤ x1 ∧ x1 < (20 : Nat)) ∧ ((¬ (w32 ((w32 ((V (a0 + 3) (Int.toNat x1)) + (V (a0 + 2) (Int.toNat x1)))) - 1)) = (V a0 5) → Q (some (vI 0)) V) ∧ ((w32 ((w32 ((V (a0 + 3) (Int.toNat x1)) + (V (a0 + 2) (Int.toNat x1)))) - 1)) = (V a0 5) → Q (some (vI 1)) V))))) : Mf K d mX1_isOnLongest [vR a0, vI x1] V Q := by
  refine Mt.of2 (L := [some (vR a0), some (vI x1)]) pnX1 rfl rfl ?_
  refine wp_aload_n dX1_isOnLongest_0 rfl rfl ?_
  refine wp_getR (b := (a0 + 3)) dX1_isOnLongest_1 fX1_18 rfl h0.1 (by decide) rfl ?_
  refine wp_iload_n dX1_isOnLongest_4 rfl rfl ?_
  refine wp_iald dX1_isOnLongest_5 h0.2.2.2.1 h.1 ?_
  refine wp_aload_n dX1_isOnLongest_6 rfl rfl ?_
  refine wp_getR (b := (a0 + 2)) dX1_isOnLongest_7 fX1_15 rfl h0.1 (by decide) rfl ?_
  refine wp_iload_n dX1_isOnLongest_10 rfl rfl ?_
  refine wp_iald dX1_isOnLongest_11 h0.2.2.1 h.2.1 ?_
  refine wp_iadd dX1_isOnLongest_12 ?_
  refine wp_iconst dX1_isOnLongest_13 (by decide) ?_
  refine wp_isub dX1_isOnLongest_14 ?_
  refine wp_aload_n dX1_isOnLongest_15 rfl rfl ?_
  refine wp_getI dX1_isOnLongest_16 fX1_72 rfl h0.1 (by decide) ?_
  refine wp_icmp_ne (tgt := 26) dX1_isOnLongest_19 rfl (fun c1 => ?_) (fun c1 => ?_)
  ·
    refine wp_iconst dX1_isOnLongest_26 (by decide) ?_
    exact wp_zreturn dX1_isOnLongest_27 rfl ⟨rfl, rfl⟩ (by decide) ⟨rfl, (h.2.2.1 c1)⟩
  ·
    refine wp_iconst dX1_isOnLongest_22 (by decide) ?_
    refine wp_goto (tgt := 27) dX1_isOnLongest_23 rfl ?_
    exact wp_zreturn dX1_isOnLongest_27 rfl ⟨rfl, rfl⟩ (by decide) ⟨rfl, (h.2.2.2 c1)⟩
set_option maxHeartbeats 4000000 in
set_option maxRecDepth 10000 in
theorem sX1_mayBits {K : KK} {d : Nat} {V : Mem} {Q : Option AV → Mem → Prop} (a0 : Nat) (h0 : IsChains a0) (h : Wf K (d + 1) mX1_mayBits 7 [some (vR a0), some (vI 0), some (vI (V a0 7))] [] V Q) : Mf K (d + 1) mX1_mayBits [vR a0] V Q := by
  refine Mt.of2 (L := [some (vR a0), none, none]) pnX1 rfl rfl ?_
  refine wp_iconst dX1_mayBits_0 (by decide) ?_
  refine wp_istore_n dX1_mayBits_1 rfl (by decide) rfl ?_
  refine wp_aload_n dX1_mayBits_2 rfl rfl ?_
  refine wp_getI dX1_mayBits_3 fX1_54 rfl h0.1 (by decide) ?_
  refine wp_istore_n dX1_mayBits_6 rfl (by decide) rfl ?_
  exact h
set_option maxHeartbeats 4000000 in
set_option maxRecDepth 10000 in
theorem sX1_mayBits_7 {K : KK} {d : Nat} {V : Mem} {Q : Option AV → Mem → Prop} (a0 : Nat) (x1 : Int) (x2 : Int) (h0 : IsChains a0) (h : (((V a0 8) ≤ x2 → Q (some (vI x1)) V) ∧ (¬ ((V a0 8) ≤ x2) → (((0 : Int) ≤ x2 ∧ x2 < (20 : Nat)) ∧ (((0 : Int) ≤ x2 ∧ x2 < (20 : Nat)) ∧ ((¬ (w32 ((w32 ((V (a0 + 3) (Int.toNat x2)) + (V (a0 + 2) (Int.toNat x2)))) - 1)) = (V a0 5) → Wf K (d + 1) mX1_mayBits 7 [some (vR a0), some (vI x1), some (vI (w32 (x2 + 1)))] [] V Q) ∧ ((w32 ((w32 ((V (a0 + 3) (Int.toNat x2)) + (V (a0 + 2) (Int.toNat x2)))) - 1)) = (V a0 5) → Wf K (d + 1) mX1_mayBits 7 [some (vR a0), some (vI (b_ior x1 (b_ishl 1 x2))), some (vI (w32 (x2 + 1)))] [] V Q))))))) : Wf K (d + 1) mX1_mayBits 7 [some (vR a0), some (vI x1), some (vI x2)] [] V Q := by
  refine wp_iload_n dX1_mayBits_7 rfl rfl ?_
  refine wp_aload_n dX1_mayBits_8 rfl rfl ?_
  refine wp_getI dX1_mayBits_9 fX1_57 rfl h0.1 (by decide) ?_
  refine wp_icmp_ge (tgt := 35) dX1_mayBits_12 rfl (fun c1 => ?_) (fun c1 => ?_)
  ·
    refine wp_iload_n dX1_mayBits_35 rfl rfl ?_
    exact wp_ireturn dX1_mayBits_36 rfl ⟨rfl, rfl⟩ ⟨rfl, (h.1 c1)⟩
  ·
    refine wp_aload_n dX1_mayBits_15 rfl rfl ?_
    refine wp_iload_n dX1_mayBits_16 rfl rfl ?_
    refine wp_inlV (d' := d) (S := []) (as := [vI x2]) dX1_mayBits_17 lX1_84 (by omega) h0.1 rfl rfl (Nat.le_of_ble_eq_true rfl) ⟨Nat.le_refl _, Nat.le_refl _⟩ (Mt.of2 (L := [some (vR a0), some (vI x2)]) pnX1 rfl rfl ?_)
    refine wp_aload_n dX1_isOnLongest_0 rfl rfl ?_
    refine wp_getR (b := (a0 + 3)) dX1_isOnLongest_1 fX1_18 rfl h0.1 (by decide) rfl ?_
    refine wp_iload_n dX1_isOnLongest_4 rfl rfl ?_
    refine wp_iald dX1_isOnLongest_5 h0.2.2.2.1 (h.2 c1).1 ?_
    refine wp_aload_n dX1_isOnLongest_6 rfl rfl ?_
    refine wp_getR (b := (a0 + 2)) dX1_isOnLongest_7 fX1_15 rfl h0.1 (by decide) rfl ?_
    refine wp_iload_n dX1_isOnLongest_10 rfl rfl ?_
    refine wp_iald dX1_isOnLongest_11 h0.2.2.1 (h.2 c1).2.1 ?_
    refine wp_iadd dX1_isOnLongest_12 ?_
    refine wp_iconst dX1_isOnLongest_13 (by decide) ?_
    refine wp_isub dX1_isOnLongest_14 ?_
    refine wp_aload_n dX1_isOnLongest_15 rfl rfl ?_
    refine wp_getI dX1_isOnLongest_16 fX1_72 rfl h0.1 (by decide) ?_
    refine wp_icmp_ne (tgt := 26) dX1_isOnLongest_19 rfl (fun c2 => ?_) (fun c2 => ?_)
    ·
      refine wp_iconst dX1_isOnLongest_26 (by decide) ?_
      refine wp_zreturn dX1_isOnLongest_27 rfl ⟨rfl, rfl⟩ (by decide) ?_
      show Wp _ _ _ _ _ 20 _ [vI 0] _ _ _ _ _
      refine wp_if_eq (tgt := 29) dX1_mayBits_20 rfl (fun c3 => ?_) (fun c3 => False.elim (by revert c3; decide))
      refine wp_iinc dX1_mayBits_29 rfl rfl ?_
      refine wp_goto (tgt := 7) dX1_mayBits_32 rfl ?_
      exact ((h.2 c1).2.2.1 c2)
    ·
      refine wp_iconst dX1_isOnLongest_22 (by decide) ?_
      refine wp_goto (tgt := 27) dX1_isOnLongest_23 rfl ?_
      refine wp_zreturn dX1_isOnLongest_27 rfl ⟨rfl, rfl⟩ (by decide) ?_
      show Wp _ _ _ _ _ 20 _ [vI 1] _ _ _ _ _
      refine wp_if_eq (tgt := 29) dX1_mayBits_20 rfl (fun c4 => False.elim (by revert c4; decide)) (fun c4 => ?_)
      refine wp_iload_n dX1_mayBits_23 rfl rfl ?_
      refine wp_iconst dX1_mayBits_24 (by decide) ?_
      refine wp_iload_n dX1_mayBits_25 rfl rfl ?_
      refine wp_ishl dX1_mayBits_26 ?_
      refine wp_ior dX1_mayBits_27 ?_
      refine wp_istore_n dX1_mayBits_28 rfl (by decide) rfl ?_
      refine wp_iinc dX1_mayBits_29 rfl rfl ?_
      refine wp_goto (tgt := 7) dX1_mayBits_32 rfl ?_
      exact ((h.2 c1).2.2.2 c2)
set_option maxHeartbeats 4000000 in
set_option maxRecDepth 10000 in
theorem sX1_mustBits {K : KK} {d : Nat} {V : Mem} {Q : Option AV → Mem → Prop} (a0 : Nat) (h0 : IsChains a0) (h : Wf K (d + 1) mX1_mustBits 7 [some (vR a0), some (vI 0), some (vI (V a0 7))] [] V Q) : Mf K (d + 1) mX1_mustBits [vR a0] V Q := by
  refine Mt.of2 (L := [some (vR a0), none, none]) pnX1 rfl rfl ?_
  refine wp_iconst dX1_mustBits_0 (by decide) ?_
  refine wp_istore_n dX1_mustBits_1 rfl (by decide) rfl ?_
  refine wp_aload_n dX1_mustBits_2 rfl rfl ?_
  refine wp_getI dX1_mustBits_3 fX1_54 rfl h0.1 (by decide) ?_
  refine wp_istore_n dX1_mustBits_6 rfl (by decide) rfl ?_
  exact h
set_option maxHeartbeats 4000000 in
set_option maxRecDepth 10000 in
theorem sX1_mustBits_7 {K : KK} {d : Nat} {V : Mem} {Q : Option AV → Mem → Prop} (a0 : Nat) (x1 : Int) (x2 : Int) (h0 : IsChains a0) (h : (((V a0 8) ≤ x2 → Q (some (vI x1)) V) ∧ (¬ ((V a0 8) ≤ x2) → (((0 : Int) ≤ x2 ∧ x2 < (20 : Nat)) ∧ (((0 : Int) ≤ x2 ∧ x2 < (20 : Nat)) ∧ ((¬ (w32 ((w32 ((V (a0 + 3) (Int.toNat x2)) + (V (a0 + 2) (Int.toNat x2)))) - 1)) = (V a0 5) → Wf K (d + 1) mX1_mustBits 7 [some (vR a0), some (vI x1), some (vI (w32 (x2 + 1)))] [] V Q) ∧ ((w32 ((w32 ((V (a0 + 3) (Int.toNat x2)) + (V (a0 + 2) (Int.toNat x2)))) - 1)) = (V a0 5) → Mf K d mX1_isAloneAtStep [vR a0, vI x2] V (fun r V5 => ∃ z5, r = some (vI z5) ∧ ((z5 = 0 → Wf K (d + 1) mX1_mustBits 7 [some (vR a0), some (vI x1), some (vI (w32 (x2 + 1)))] [] V5 Q) ∧ (¬ (z5 = 0) → Wf K (d + 1) mX1_mustBits 7 [some (vR a0), some (vI (b_ior x1 (b_ishl 1 x2))), some (vI (w32 (x2 + 1)))] [] V5 Q)))))))))) : Wf K (d + 1) mX1_mustBits 7 [some (vR a0), some (vI x1), some (vI x2)] [] V Q := by
  refine wp_iload_n dX1_mustBits_7 rfl rfl ?_
  refine wp_aload_n dX1_mustBits_8 rfl rfl ?_
  refine wp_getI dX1_mustBits_9 fX1_57 rfl h0.1 (by decide) ?_
  refine wp_icmp_ge (tgt := 43) dX1_mustBits_12 rfl (fun c1 => ?_) (fun c1 => ?_)
  ·
    refine wp_iload_n dX1_mustBits_43 rfl rfl ?_
    exact wp_ireturn dX1_mustBits_44 rfl ⟨rfl, rfl⟩ ⟨rfl, (h.1 c1)⟩
  ·
    refine wp_aload_n dX1_mustBits_15 rfl rfl ?_
    refine wp_iload_n dX1_mustBits_16 rfl rfl ?_
    refine wp_inlV (d' := d) (S := []) (as := [vI x2]) dX1_mustBits_17 lX1_84 (by omega) h0.1 rfl rfl (Nat.le_of_ble_eq_true rfl) ⟨Nat.le_refl _, Nat.le_refl _⟩ (Mt.of2 (L := [some (vR a0), some (vI x2)]) pnX1 rfl rfl ?_)
    refine wp_aload_n dX1_isOnLongest_0 rfl rfl ?_
    refine wp_getR (b := (a0 + 3)) dX1_isOnLongest_1 fX1_18 rfl h0.1 (by decide) rfl ?_
    refine wp_iload_n dX1_isOnLongest_4 rfl rfl ?_
    refine wp_iald dX1_isOnLongest_5 h0.2.2.2.1 (h.2 c1).1 ?_
    refine wp_aload_n dX1_isOnLongest_6 rfl rfl ?_
    refine wp_getR (b := (a0 + 2)) dX1_isOnLongest_7 fX1_15 rfl h0.1 (by decide) rfl ?_
    refine wp_iload_n dX1_isOnLongest_10 rfl rfl ?_
    refine wp_iald dX1_isOnLongest_11 h0.2.2.1 (h.2 c1).2.1 ?_
    refine wp_iadd dX1_isOnLongest_12 ?_
    refine wp_iconst dX1_isOnLongest_13 (by decide) ?_
    refine wp_isub dX1_isOnLongest_14 ?_
    refine wp_aload_n dX1_isOnLongest_15 rfl rfl ?_
    refine wp_getI dX1_isOnLongest_16 fX1_72 rfl h0.1 (by decide) ?_
    refine wp_icmp_ne (tgt := 26) dX1_isOnLongest_19 rfl (fun c2 => ?_) (fun c2 => ?_)
    ·
      refine wp_iconst dX1_isOnLongest_26 (by decide) ?_
      refine wp_zreturn dX1_isOnLongest_27 rfl ⟨rfl, rfl⟩ (by decide) ?_
      show Wp _ _ _ _ _ 20 _ [vI 0] _ _ _ _ _
      refine wp_if_eq (tgt := 37) dX1_mustBits_20 rfl (fun c3 => ?_) (fun c3 => False.elim (by revert c3; decide))
      refine wp_iinc dX1_mustBits_37 rfl rfl ?_
      refine wp_goto (tgt := 7) dX1_mustBits_40 rfl ?_
      exact ((h.2 c1).2.2.1 c2)
    ·
      refine wp_iconst dX1_isOnLongest_22 (by decide) ?_
      refine wp_goto (tgt := 27) dX1_isOnLongest_23 rfl ?_
      refine wp_zreturn dX1_isOnLongest_27 rfl ⟨rfl, rfl⟩ (by decide) ?_
      show Wp _ _ _ _ _ 20 _ [vI 1] _ _ _ _ _
      refine wp_if_eq (tgt := 37) dX1_mustBits_20 rfl (fun c4 => False.elim (by revert c4; decide)) (fun c4 => ?_)
      refine wp_aload_n dX1_mustBits_23 rfl rfl ?_
      refine wp_iload_n dX1_mustBits_24 rfl rfl ?_
      refine wp_callV (S := []) (as := [vI x2]) dX1_mustBits_25 lX1_88 (((h.2 c1).2.2.2 c2)) (by omega) h0.1 rfl rfl (Nat.le_of_ble_eq_true rfl) ⟨Nat.le_refl _, Nat.le_refl _⟩ ?_
      rintro _ _ V5 ⟨rfl, z5, rfl, q5⟩
      show Wp _ _ _ _ _ 28 _ [vI z5] _ _ _ _ _
      refine wp_if_eq (tgt := 37) dX1_mustBits_28 rfl (fun c6 => ?_) (fun c6 => ?_)
      ·
        refine wp_iinc dX1_mustBits_37 rfl rfl ?_
        refine wp_goto (tgt := 7) dX1_mustBits_40 rfl ?_
        exact (q5.1 c6)
      ·
        refine wp_iload_n dX1_mustBits_31 rfl rfl ?_
        refine wp_iconst dX1_mustBits_32 (by decide) ?_
        refine wp_iload_n dX1_mustBits_33 rfl rfl ?_
        refine wp_ishl dX1_mustBits_34 ?_
        refine wp_ior dX1_mustBits_35 ?_
        refine wp_istore_n dX1_mustBits_36 rfl (by decide) rfl ?_
        refine wp_iinc dX1_mustBits_37 rfl rfl ?_
        refine wp_goto (tgt := 7) dX1_mustBits_40 rfl ?_
        exact (q5.2 c6)
set_option maxHeartbeats 4000000 in
set_option maxRecDepth 10000 in
theorem sX1_isAloneAtStep {K : KK} {d : Nat} {V : Mem} {Q : Option AV → Mem → Prop} (a0 : Nat) (x1 : Int) (h0 : IsChains a0) (h : Wf K (d + 1) mX1_isAloneAtStep 5 [some (vR a0), some (vI x1), some (vI (V a0 7))] [] V Q) : Mf K (d + 1) mX1_isAloneAtStep [vR a0, vI x1] V Q := by
  refine Mt.of2 (L := [some (vR a0), some (vI x1), none]) pnX1 rfl rfl ?_
  refine wp_aload_n dX1_isAloneAtStep_0 rfl rfl ?_
  refine wp_getI dX1_isAloneAtStep_1 fX1_54 rfl h0.1 (by decide) ?_
  refine wp_istore_n dX1_isAloneAtStep_4 rfl (by decide) rfl ?_
  exact h
set_option maxHeartbeats 4000000 in
set_option maxRecDepth 10000 in
theorem sX1_isAloneAtStep_5 {K : KK} {d : Nat} {V : Mem} {Q : Option AV → Mem → Prop} (a0 : Nat) (x1 : Int) (x2 : Int) (h0 : IsChains a0) (h : (((V a0 8) ≤ x2 → Q (some (vI 1)) V) ∧ (¬ ((V a0 8) ≤ x2) → ((x2 = x1 → Wf K (d + 1) mX1_isAloneAtStep 5 [some (vR a0), some (vI x1), some (vI (w32 (x2 + 1)))] [] V Q) ∧ (¬ (x2 = x1) → (((0 : Int) ≤ x2 ∧ x2 < (20 : Nat)) ∧ (((0 : Int) ≤ x1 ∧ x1 < (20 : Nat)) ∧ ((¬ (V (a0 + 3) (Int.toNat x2)) = (V (a0 + 3) (Int.toNat x1)) → Wf K (d + 1) mX1_isAloneAtStep 5 [some (vR a0), some (vI x1), some (vI (w32 (x2 + 1)))] [] V Q) ∧ ((V (a0 + 3) (Int.toNat x2)) = (V (a0 + 3) (Int.toNat x1)) → (((0 : Int) ≤ x2 ∧ x2 < (20 : Nat)) ∧ (((0 : Int) ≤ x2 ∧ x2 < (20 : Nat)) ∧ ((¬ (w32 ((w32 ((V (a0 + 3) (Int.toNat x2)) + (V (a0 + 2) (Int.toNat x2)))) - 1)) = (V a0 5) → Wf K (d + 1) mX1_isAloneAtStep 5 [some (vR a0), some (vI x1), some (vI (w32 (x2 + 1)))] [] V Q) ∧ ((w32 ((w32 ((V (a0 + 3) (Int.toNat x2)) + (V (a0 + 2) (Int.toNat x2)))) - 1)) = (V a0 5) → Q (some (vI 0)) V))))))))))))) : Wf K (d + 1) mX1_isAloneAtStep 5 [some (vR a0), some (vI x1), some (vI x2)] [] V Q := by
  refine wp_iload_n dX1_isAloneAtStep_5 rfl rfl ?_
  refine wp_aload_n dX1_isAloneAtStep_6 rfl rfl ?_
  refine wp_getI dX1_isAloneAtStep_7 fX1_57 rfl h0.1 (by decide) ?_
  refine wp_icmp_ge (tgt := 49) dX1_isAloneAtStep_10 rfl (fun c1 => ?_) (fun c1 => ?_)
  ·
    refine wp_iconst dX1_isAloneAtStep_49 (by decide) ?_
    exact wp_zreturn dX1_isAloneAtStep_50 rfl ⟨rfl, rfl⟩ (by decide) ⟨rfl, (h.1 c1)⟩
  ·
    refine wp_iload_n dX1_isAloneAtStep_13 rfl rfl ?_
    refine wp_iload_n dX1_isAloneAtStep_14 rfl rfl ?_
    refine wp_icmp_eq (tgt := 43) dX1_isAloneAtStep_15 rfl (fun c2 => ?_) (fun c2 => ?_)
    ·
      refine wp_iinc dX1_isAloneAtStep_43 rfl rfl ?_
      refine wp_goto (tgt := 5) dX1_isAloneAtStep_46 rfl ?_
      exact ((h.2 c1).1 c2)
    ·
      refine wp_aload_n dX1_isAloneAtStep_18 rfl rfl ?_
      refine wp_getR (b := (a0 + 3)) dX1_isAloneAtStep_19 fX1_18 rfl h0.1 (by decide) rfl ?_
      refine wp_iload_n dX1_isAloneAtStep_22 rfl rfl ?_
      refine wp_iald dX1_isAloneAtStep_23 h0.2.2.2.1 ((h.2 c1).2 c2).1 ?_
      refine wp_aload_n dX1_isAloneAtStep_24 rfl rfl ?_
      refine wp_getR (b := (a0 + 3)) dX1_isAloneAtStep_25 fX1_18 rfl h0.1 (by decide) rfl ?_
      refine wp_iload_n dX1_isAloneAtStep_28 rfl rfl ?_
      refine wp_iald dX1_isAloneAtStep_29 h0.2.2.2.1 ((h.2 c1).2 c2).2.1 ?_
      refine wp_icmp_ne (tgt := 43) dX1_isAloneAtStep_30 rfl (fun c3 => ?_) (fun c3 => ?_)
      ·
        refine wp_iinc dX1_isAloneAtStep_43 rfl rfl ?_
        refine wp_goto (tgt := 5) dX1_isAloneAtStep_46 rfl ?_
        exact (((h.2 c1).2 c2).2.2.1 c3)
      ·
        refine wp_aload_n dX1_isAloneAtStep_33 rfl rfl ?_
        refine wp_iload_n dX1_isAloneAtStep_34 rfl rfl ?_
        refine wp_inlV (d' := d) (S := []) (as := [vI x2]) dX1_isAloneAtStep_35 lX1_84 (by omega) h0.1 rfl rfl (Nat.le_of_ble_eq_true rfl) ⟨Nat.le_refl _, Nat.le_refl _⟩ (Mt.of2 (L := [some (vR a0), some (vI x2)]) pnX1 rfl rfl ?_)
        refine wp_aload_n dX1_isOnLongest_0 rfl rfl ?_
        refine wp_getR (b := (a0 + 3)) dX1_isOnLongest_1 fX1_18 rfl h0.1 (by decide) rfl ?_
        refine wp_iload_n dX1_isOnLongest_4 rfl rfl ?_
        refine wp_iald dX1_isOnLongest_5 h0.2.2.2.1 (((h.2 c1).2 c2).2.2.2 c3).1 ?_
        refine wp_aload_n dX1_isOnLongest_6 rfl rfl ?_
        refine wp_getR (b := (a0 + 2)) dX1_isOnLongest_7 fX1_15 rfl h0.1 (by decide) rfl ?_
        refine wp_iload_n dX1_isOnLongest_10 rfl rfl ?_
        refine wp_iald dX1_isOnLongest_11 h0.2.2.1 (((h.2 c1).2 c2).2.2.2 c3).2.1 ?_
        refine wp_iadd dX1_isOnLongest_12 ?_
        refine wp_iconst dX1_isOnLongest_13 (by decide) ?_
        refine wp_isub dX1_isOnLongest_14 ?_
        refine wp_aload_n dX1_isOnLongest_15 rfl rfl ?_
        refine wp_getI dX1_isOnLongest_16 fX1_72 rfl h0.1 (by decide) ?_
        refine wp_icmp_ne (tgt := 26) dX1_isOnLongest_19 rfl (fun c4 => ?_) (fun c4 => ?_)
        ·
          refine wp_iconst dX1_isOnLongest_26 (by decide) ?_
          refine wp_zreturn dX1_isOnLongest_27 rfl ⟨rfl, rfl⟩ (by decide) ?_
          show Wp _ _ _ _ _ 38 _ [vI 0] _ _ _ _ _
          refine wp_if_eq (tgt := 43) dX1_isAloneAtStep_38 rfl (fun c5 => ?_) (fun c5 => False.elim (by revert c5; decide))
          refine wp_iinc dX1_isAloneAtStep_43 rfl rfl ?_
          refine wp_goto (tgt := 5) dX1_isAloneAtStep_46 rfl ?_
          exact ((((h.2 c1).2 c2).2.2.2 c3).2.2.1 c4)
        ·
          refine wp_iconst dX1_isOnLongest_22 (by decide) ?_
          refine wp_goto (tgt := 27) dX1_isOnLongest_23 rfl ?_
          refine wp_zreturn dX1_isOnLongest_27 rfl ⟨rfl, rfl⟩ (by decide) ?_
          show Wp _ _ _ _ _ 38 _ [vI 1] _ _ _ _ _
          refine wp_if_eq (tgt := 43) dX1_isAloneAtStep_38 rfl (fun c6 => False.elim (by revert c6; decide)) (fun c6 => ?_)
          refine wp_iconst dX1_isAloneAtStep_41 (by decide) ?_
          exact wp_zreturn dX1_isAloneAtStep_42 rfl ⟨rfl, rfl⟩ (by decide) ⟨rfl, ((((h.2 c1).2 c2).2.2.2 c3).2.2.2 c4)⟩
set_option maxHeartbeats 4000000 in
set_option maxRecDepth 10000 in
theorem sX2_tabulate {K : KK} {d : Nat} {V : Mem} {Q : Option AV → Mem → Prop} (a0 : Nat) (a1 n1 : Nat) (h0 : IsBraid a0) (h1 : IsTab n1 a1) (h : Wf K d mX2_tabulate 7 [some (vR a0), some (vR a1), some (vI (V a0 2)), some (vI 0), none] [] V Q) : Mf K d mX2_tabulate [vR a0, vR a1] V Q := by
  refine Mt.of2 (L := [some (vR a0), some (vR a1), none, none, none]) pnX2 rfl rfl ?_
  refine wp_aload_n dX2_tabulate_0 rfl rfl ?_
  refine wp_getI dX2_tabulate_1 fX2_36 rfl h0.1 (by decide) ?_
  refine wp_istore_n dX2_tabulate_4 rfl (by decide) rfl ?_
  refine wp_iconst dX2_tabulate_5 (by decide) ?_
  refine wp_istore_n dX2_tabulate_6 rfl (by decide) rfl ?_
  exact h
set_option maxHeartbeats 4000000 in
set_option maxRecDepth 10000 in
theorem sX2_tabulate_7 {K : KK} {d : Nat} {V : Mem} {Q : Option AV → Mem → Prop} (a0 : Nat) (a1 n1 : Nat) (x2 : Int) (x3 : Int) (h0 : IsBraid a0) (h1 : IsTab n1 a1) (h : ((x2 < x3 → Wf K d mX2_tabulate 28 [some (vR a0), some (vR a1), some (vI x2), some (vI (w32 (x2 - 1))), none] [] V Q) ∧ (¬ (x2 < x3) → (((0 : Int) ≤ x2 ∧ x2 < (n1 : Nat)) ∧ (((0 : Int) ≤ x3 ∧ x3 < (n1 : Nat)) ∧ Wf K d mX2_tabulate 7 [some (vR a0), some (vR a1), some (vI x2), some (vI (w32 (x3 + 1))), none] [] (upm V (a1 + 1 + 1 * Int.toNat x2) (Int.toNat x3) 0) Q))))) : Wf K d mX2_tabulate 7 [some (vR a0), some (vR a1), some (vI x2), some (vI x3), none] [] V Q := by
  refine wp_iload_n dX2_tabulate_7 rfl rfl ?_
  refine wp_iload_n dX2_tabulate_8 rfl rfl ?_
  refine wp_icmp_gt (tgt := 24) dX2_tabulate_9 rfl (fun c1 => ?_) (fun c1 => ?_)
  ·
    refine wp_iload_n dX2_tabulate_24 rfl rfl ?_
    refine wp_iconst dX2_tabulate_25 (by decide) ?_
    refine wp_isub dX2_tabulate_26 ?_
    refine wp_istore_n dX2_tabulate_27 rfl (by decide) rfl ?_
    exact (h.1 c1)
  ·
    refine wp_aload_n dX2_tabulate_12 rfl rfl ?_
    refine wp_iload_n dX2_tabulate_13 rfl rfl ?_
    have g2 : (0 : Int) ≤ x2 ∧ x2 < (n1 : Nat) := (h.2 c1).1
    refine wp_aald (b := (a1 + 1 + 1 * Int.toNat x2)) dX2_tabulate_14 h1.1 (by decide) g2 (ap_get (b := a1 + 1) (s := 1) (n := n1) g2) ?_
    refine wp_iload_n dX2_tabulate_15 rfl rfl ?_
    refine wp_iconst dX2_tabulate_16 (by decide) ?_
    refine wp_iast dX2_tabulate_17 (IsTab.row h1 g2) (h.2 c1).2.1 ?_
    refine wp_iinc dX2_tabulate_18 rfl rfl ?_
    refine wp_goto (tgt := 7) dX2_tabulate_21 rfl ?_
    exact (h.2 c1).2.2
set_option maxHeartbeats 4000000 in
set_option maxRecDepth 10000 in
theorem sX2_tabulate_28 {K : KK} {d : Nat} {V : Mem} {Q : Option AV → Mem → Prop} (a0 : Nat) (a1 n1 : Nat) (x2 : Int) (x3 : Int) (h0 : IsBraid a0) (h1 : IsTab n1 a1) (h : ((x3 < 0 → Q none V) ∧ (¬ (x3 < 0) → Wf K d mX2_tabulate 35 [some (vR a0), some (vR a1), some (vI x2), some (vI x3), some (vI 0)] [] V Q))) : Wf K d mX2_tabulate 28 [some (vR a0), some (vR a1), some (vI x2), some (vI x3), none] [] V Q := by
  refine wp_iload_n dX2_tabulate_28 rfl rfl ?_
  refine wp_if_lt (tgt := 84) dX2_tabulate_29 rfl (fun c1 => ?_) (fun c1 => ?_)
  ·
    exact wp_return dX2_tabulate_84 rfl ⟨rfl, rfl⟩ ⟨rfl, (h.1 c1)⟩
  ·
    refine wp_iconst dX2_tabulate_32 (by decide) ?_
    refine wp_istore dX2_tabulate_33 (by decide) rfl ?_
    exact (h.2 c1)
set_option maxHeartbeats 4000000 in
set_option maxRecDepth 10000 in
theorem sX2_tabulate_35 {K : KK} {d : Nat} {V : Mem} {Q : Option AV → Mem → Prop} (a0 : Nat) (a1 n1 : Nat) (x2 : Int) (x3 : Int) (x4 : Int) (h0 : IsBraid a0) (h1 : IsTab n1 a1) (h : ((x2 < x4 → Wf K d mX2_tabulate 28 [some (vR a0), some (vR a1), some (vI x2), some (vI (w32 (x3 + (-1)))), none] [] V Q) ∧ (¬ (x2 < x4) → (((0 : Int) ≤ x3 ∧ x3 < (n1 : Nat)) ∧ (((0 : Int) ≤ (w32 (x3 + 1)) ∧ (w32 (x3 + 1)) < (n1 : Nat)) ∧ (((0 : Int) ≤ x4 ∧ x4 < (n1 : Nat)) ∧ (((0 : Int) ≤ x3 ∧ x3 < (10 : Nat)) ∧ ((x4 ≤ (V (a0 + 1) (Int.toNat x3)) → (((0 : Int) ≤ x4 ∧ x4 < (n1 : Nat)) ∧ Wf K d mX2_tabulate 35 [some (vR a0), some (vR a1), some (vI x2), some (vI x3), some (vI (w32 (x4 + 1)))] [] (upm V (a1 + 1 + 1 * Int.toNat x3) (Int.toNat x4) (w32 ((V (a1 + 1 + 1 * Int.toNat (w32 (x3 + 1))) (Int.toNat x4)) + 0))) Q)) ∧ (¬ (x4 ≤ (V (a0 + 1) (Int.toNat x3))) → (((0 : Int) ≤ x4 ∧ x4 < (n1 : Nat)) ∧ Wf K d mX2_tabulate 35 [some (vR a0), some (vR a1), some (vI x2), some (vI x3), some (vI (w32 (x4 + 1)))] [] (upm V (a1 + 1 + 1 * Int.toNat x3) (Int.toNat x4) (w32 ((V (a1 + 1 + 1 * Int.toNat (w32 (x3 + 1))) (Int.toNat x4)) + 1))) Q)))))))))) : Wf K d mX2_tabulate 35 [some (vR a0), some (vR a1), some (vI x2), some (vI x3), some (vI x4)] [] V Q := by
  refine wp_iload dX2_tabulate_35 rfl ?_
  refine wp_iload_n dX2_tabulate_37 rfl rfl ?_
  refine wp_icmp_gt (tgt := 78) dX2_tabulate_38 rfl (fun c1 => ?_) (fun c1 => ?_)
  ·
    refine wp_iinc dX2_tabulate_78 rfl rfl ?_
    refine wp_goto (tgt := 28) dX2_tabulate_81 rfl ?_
    exact wp_loc (L2 := [some (vR a0), some (vR a1), some (vI x2), some (vI (w32 (x3 + (-1)))), none]) ⟨rfl, ⟨rfl, ⟨rfl, ⟨rfl, trivial⟩⟩⟩⟩ (h.1 c1)
  ·
    refine wp_aload_n dX2_tabulate_41 rfl rfl ?_
    refine wp_iload_n dX2_tabulate_42 rfl rfl ?_
    have g2 : (0 : Int) ≤ x3 ∧ x3 < (n1 : Nat) := (h.2 c1).1
    refine wp_aald (b := (a1 + 1 + 1 * Int.toNat x3)) dX2_tabulate_43 h1.1 (by decide) g2 (ap_get (b := a1 + 1) (s := 1) (n := n1) g2) ?_
    refine wp_iload dX2_tabulate_44 rfl ?_
    refine wp_aload_n dX2_tabulate_46 rfl rfl ?_
    refine wp_iload_n dX2_tabulate_47 rfl rfl ?_
    refine wp_iconst dX2_tabulate_48 (by decide) ?_
    refine wp_iadd dX2_tabulate_49 ?_
    have g3 : (0 : Int) ≤ (w32 (x3 + 1)) ∧ (w32 (x3 + 1)) < (n1 : Nat) := (h.2 c1).2.1
    refine wp_aald (b := (a1 + 1 + 1 * Int.toNat (w32 (x3 + 1)))) dX2_tabulate_50 h1.1 (by decide) g3 (ap_get (b := a1 + 1) (s := 1) (n := n1) g3) ?_
    refine wp_iload dX2_tabulate_51 rfl ?_
    refine wp_iald dX2_tabulate_53 (IsTab.row h1 g3) (h.2 c1).2.2.1 ?_
    refine wp_aload_n dX2_tabulate_54 rfl rfl ?_
    refine wp_getR (b := (a0 + 1)) dX2_tabulate_55 fX2_40 rfl h0.1 (by decide) rfl ?_
    refine wp_iload_n dX2_tabulate_58 rfl rfl ?_
    refine wp_iald dX2_tabulate_59 h0.2 (h.2 c1).2.2.2.1 ?_
    refine wp_iload dX2_tabulate_60 rfl ?_
    refine wp_icmp_ge (tgt := 69) dX2_tabulate_62 rfl (fun c4 => ?_) (fun c4 => ?_)
    ·
      refine wp_iconst dX2_tabulate_69 (by decide) ?_
      refine wp_iadd dX2_tabulate_70 ?_
      refine wp_iast dX2_tabulate_71 (IsTab.row h1 g2) ((h.2 c1).2.2.2.2.1 c4).1 ?_
      refine wp_iinc dX2_tabulate_72 rfl rfl ?_
      refine wp_goto (tgt := 35) dX2_tabulate_75 rfl ?_
      exact ((h.2 c1).2.2.2.2.1 c4).2
    ·
      refine wp_iconst dX2_tabulate_65 (by decide) ?_
      refine wp_goto (tgt := 70) dX2_tabulate_66 rfl ?_
      refine wp_iadd dX2_tabulate_70 ?_
      refine wp_iast dX2_tabulate_71 (IsTab.row h1 g2) ((h.2 c1).2.2.2.2.2 c4).1 ?_
      refine wp_iinc dX2_tabulate_72 rfl rfl ?_
      refine wp_goto (tgt := 35) dX2_tabulate_75 rfl ?_
      exact ((h.2 c1).2.2.2.2.2 c4).2
set_option maxHeartbeats 4000000 in
set_option maxRecDepth 10000 in
theorem sX2_join {K : KK} {d : Nat} {V : Mem} {Q : Option AV → Mem → Prop} (a1 : Nat) (a2 : Nat) (a3 : Nat) (h1 : IsBraid a1) (h2 : IsBraid a2) (h3 : IsBraid a3) (h : Mf K d mX2_tabulate [vR a1, vR 209] V (fun r V1 => r = none ∧ Mf K d mX2_tabulate [vR a2, vR 221] V1 (fun r V2 => r = none ∧ Wf K (d + 1) mX2_join 25 [some (vR 204), none, none, some (vR a3), some (vI (V2 a1 2)), some (vI 0), none] [] V2 Q))) : Mf K (d + 1) mX2_join [vR 204, vR a1, vR a2, vR a3] V Q := by
  refine Mt.of2 (L := [some (vR 204), some (vR a1), some (vR a2), some (vR a3), none, none, none]) pnX2 rfl rfl ?_
  refine wp_aload_n dX2_join_0 rfl rfl ?_
  refine wp_aload_n dX2_join_1 rfl rfl ?_
  refine wp_getR (b := 209) dX2_join_2 fX2_23 rfl sh204 (by decide) rfl ?_
  refine wp_callS (S := []) (as := [vR a1, vR 209]) dX2_join_5 lX2_43 (h) (by omega) rfl rfl (Nat.le_of_ble_eq_true rfl) ⟨Nat.le_refl _, Nat.le_refl _⟩ ?_
  rintro _ _ V1 ⟨rfl, rfl, q1⟩
  show Wp _ _ _ _ _ 8 _ [] _ _ _ _ _
  refine wp_aload_n dX2_join_8 rfl rfl ?_
  refine wp_aload_n dX2_join_9 rfl rfl ?_
  refine wp_getR (b := 221) dX2_join_10 fX2_26 rfl sh204 (by decide) rfl ?_
  refine wp_callS (S := []) (as := [vR a2, vR 221]) dX2_join_13 lX2_43 (q1) (by omega) rfl rfl (Nat.le_of_ble_eq_true rfl) ⟨Nat.le_refl _, Nat.le_refl _⟩ ?_
  rintro _ _ V2 ⟨rfl, rfl, q2⟩
  show Wp _ _ _ _ _ 16 _ [] _ _ _ _ _
  refine wp_aload_n dX2_join_16 rfl rfl ?_
  refine wp_getI dX2_join_17 fX2_36 rfl h1.1 (by decide) ?_
  refine wp_istore dX2_join_20 (by decide) rfl ?_
  refine wp_iconst dX2_join_22 (by decide) ?_
  refine wp_istore dX2_join_23 (by decide) rfl ?_
  exact wp_loc (L2 := [some (vR 204), none, none, some (vR a3), some (vI (V2 a1 2)), some (vI 0), none]) ⟨rfl, ⟨rfl, ⟨rfl, ⟨rfl, trivial⟩⟩⟩⟩ q2
set_option maxHeartbeats 4000000 in
set_option maxRecDepth 10000 in
theorem sX2_join_25 {K : KK} {d : Nat} {V : Mem} {Q : Option AV → Mem → Prop} (a1 : Nat) (a2 : Nat) (a3 : Nat) (x4 : Int) (x5 : Int) (h1 : IsBraid a1) (h2 : IsBraid a2) (h3 : IsBraid a3) (h : ((x4 < x5 → Wf K (d + 1) mX2_join 83 [some (vR 204), none, none, some (vR a3), some (vI x4), some (vI 0), none] [] (upm V a3 2 x4) Q) ∧ (¬ (x4 < x5) → Wf K (d + 1) mX2_join 35 [some (vR 204), none, none, some (vR a3), some (vI x4), some (vI x5), some (vI 0)] [] V Q))) : Wf K (d + 1) mX2_join 25 [some (vR 204), none, none, some (vR a3), some (vI x4), some (vI x5), none] [] V Q := by
  refine wp_iload dX2_join_25 rfl ?_
  refine wp_iload dX2_join_27 rfl ?_
  refine wp_icmp_gt (tgt := 74) dX2_join_29 rfl (fun c1 => ?_) (fun c1 => ?_)
  ·
    refine wp_aload_n dX2_join_74 rfl rfl ?_
    refine wp_iload dX2_join_75 rfl ?_
    refine wp_putI dX2_join_77 fwX2_36 rfl h3.1 (by decide) ?_
    refine wp_iconst dX2_join_80 (by decide) ?_
    refine wp_istore dX2_join_81 (by decide) rfl ?_
    exact (h.1 c1)
  ·
    refine wp_iconst dX2_join_32 (by decide) ?_
    refine wp_istore dX2_join_33 (by decide) rfl ?_
    exact (h.2 c1)
set_option maxHeartbeats 4000000 in
set_option maxRecDepth 10000 in
theorem sX2_join_83 {K : KK} {d : Nat} {V : Mem} {Q : Option AV → Mem → Prop} (a1 : Nat) (a2 : Nat) (a3 : Nat) (x4 : Int) (x5 : Int) (h1 : IsBraid a1) (h2 : IsBraid a2) (h3 : IsBraid a3) (h : ((x4 ≤ x5 → Q none V) ∧ (¬ (x4 ≤ x5) → Mf K d mX2_endOf [vR 204, vI x5, vI x4] V (fun r V2 => ∃ z2, r = some (vI z2) ∧ (((0 : Int) ≤ x5 ∧ x5 < (10 : Nat)) ∧ Wf K (d + 1) mX2_join 83 [some (vR 204), none, none, some (vR a3), some (vI x4), some (vI (w32 (x5 + 1))), none] [] (upm V2 (a3 + 1) (Int.toNat x5) z2) Q))))) : Wf K (d + 1) mX2_join 83 [some (vR 204), none, none, some (vR a3), some (vI x4), some (vI x5), none] [] V Q := by
  refine wp_iload dX2_join_83 rfl ?_
  refine wp_iload dX2_join_85 rfl ?_
  refine wp_icmp_ge (tgt := 111) dX2_join_87 rfl (fun c1 => ?_) (fun c1 => ?_)
  ·
    exact wp_return dX2_join_111 rfl ⟨rfl, rfl⟩ ⟨rfl, (h.1 c1)⟩
  ·
    refine wp_aload_n dX2_join_90 rfl rfl ?_
    refine wp_getR (b := (a3 + 1)) dX2_join_91 fX2_40 rfl h3.1 (by decide) rfl ?_
    refine wp_iload dX2_join_94 rfl ?_
    refine wp_aload_n dX2_join_96 rfl rfl ?_
    refine wp_iload dX2_join_97 rfl ?_
    refine wp_iload dX2_join_99 rfl ?_
    refine wp_callV (S := [vI x5, vR (a3 + 1)]) (as := [vI x5, vI x4]) dX2_join_101 lX2_51 ((h.2 c1)) (by omega) sh204 rfl rfl (Nat.le_of_ble_eq_true rfl) ⟨Nat.le_refl _, Nat.le_refl _⟩ ?_
    rintro _ _ V2 ⟨rfl, z2, rfl, q2⟩
    show Wp _ _ _ _ _ 104 _ [vI z2, vI x5, vR (a3 + 1)] _ _ _ _ _
    refine wp_iast dX2_join_104 h3.2 q2.1 ?_
    refine wp_iinc dX2_join_105 rfl rfl ?_
    refine wp_goto (tgt := 83) dX2_join_108 rfl ?_
    exact q2.2
set_option maxHeartbeats 4000000 in
set_option maxRecDepth 10000 in
theorem sX2_join_35 {K : KK} {d : Nat} {V : Mem} {Q : Option AV → Mem → Prop} (a1 : Nat) (a2 : Nat) (a3 : Nat) (x4 : Int) (x5 : Int) (x6 : Int) (h1 : IsBraid a1) (h2 : IsBraid a2) (h3 : IsBraid a3) (h : ((x4 < x6 → Wf K (d + 1) mX2_join 25 [some (vR 204), none, none, some (vR a3), some (vI x4), some (vI (w32 (x5 + 1))), none] [] V Q) ∧ (¬ (x4 < x6) → (((0 : Int) ≤ x5 ∧ x5 < (11 : Nat)) ∧ Mf K d mX2_leastBetween [vR 204, vI x5, vI x6, vI x4] V (fun r V3 => ∃ z3, r = some (vI z3) ∧ (((0 : Int) ≤ x6 ∧ x6 < (11 : Nat)) ∧ Wf K (d + 1) mX2_join 35 [some (vR 204), none, none, some (vR a3), some (vI x4), some (vI x5), some (vI (w32 (x6 + 1)))] [] (upm V3 (234 + 1 * Int.toNat x5) (Int.toNat x6) z3) Q)))))) : Wf K (d + 1) mX2_join 35 [some (vR 204), none, none, some (vR a3), some (vI x4), some (vI x5), some (vI x6)] [] V Q := by
  refine wp_iload dX2_join_35 rfl ?_
  refine wp_iload dX2_join_37 rfl ?_
  refine wp_icmp_gt (tgt := 68) dX2_join_39 rfl (fun c1 => ?_) (fun c1 => ?_)
  ·
    refine wp_iinc dX2_join_68 rfl rfl ?_
    refine wp_goto (tgt := 25) dX2_join_71 rfl ?_
    exact wp_loc (L2 := [some (vR 204), none, none, some (vR a3), some (vI x4), some (vI (w32 (x5 + 1))), none]) ⟨rfl, ⟨rfl, ⟨rfl, ⟨rfl, trivial⟩⟩⟩⟩ (h.1 c1)
  ·
    refine wp_aload_n dX2_join_42 rfl rfl ?_
    refine wp_getR (b := 233) dX2_join_43 fX2_29 rfl sh204 (by decide) rfl ?_
    refine wp_iload dX2_join_46 rfl ?_
    have g2 : (0 : Int) ≤ x5 ∧ x5 < (11 : Nat) := (h.2 c1).1
    refine wp_aald (b := (234 + 1 * Int.toNat x5)) dX2_join_48 sh233 (by decide) g2 (ap_get (b := 234) (s := 1) (n := 11) g2) ?_
    refine wp_iload dX2_join_49 rfl ?_
    refine wp_aload_n dX2_join_51 rfl rfl ?_
    refine wp_iload dX2_join_52 rfl ?_
    refine wp_iload dX2_join_54 rfl ?_
    refine wp_iload dX2_join_56 rfl ?_
    refine wp_callV (S := [vI x6, vR (234 + 1 * Int.toNat x5)]) (as := [vI x5, vI x6, vI x4]) dX2_join_58 lX2_47 ((h.2 c1).2) (by omega) sh204 rfl rfl (Nat.le_of_ble_eq_true rfl) ⟨Nat.le_refl _, Nat.le_refl _⟩ ?_
    rintro _ _ V3 ⟨rfl, z3, rfl, q3⟩
    show Wp _ _ _ _ _ 61 _ [vI z3, vI x6, vR (234 + 1 * Int.toNat x5)] _ _ _ _ _
    refine wp_iast dX2_join_61 (arr233 g2) q3.1 ?_
    refine wp_iinc dX2_join_62 rfl rfl ?_
    refine wp_goto (tgt := 35) dX2_join_65 rfl ?_
    exact q3.2
set_option maxHeartbeats 4000000 in
set_option maxRecDepth 10000 in
theorem sX2_leastBetween {K : KK} {d : Nat} {V : Mem} {Q : Option AV → Mem → Prop} (x1 : Int) (x2 : Int) (x3 : Int) (h : (((0 : Int) ≤ x1 ∧ x1 < (11 : Nat)) ∧ (((0 : Int) ≤ 0 ∧ (0 : Int) < (11 : Nat)) ∧ (((0 : Int) ≤ x2 ∧ x2 < (11 : Nat)) ∧ Wf K (d + 1) mX2_leastBetween 22 [some (vR 204), some (vI x1), some (vI x2), some (vI x3), some (vI (w32 ((V (210 + 1 * Int.toNat x1) 0) + (V (222 + 1 * Int.toNat 0) (Int.toNat x2))))), some (vI 1)] [] V Q)))) : Mf K (d + 1) mX2_leastBetween [vR 204, vI x1, vI x2, vI x3] V Q := by
  refine Mt.of2 (L := [some (vR 204), some (vI x1), some (vI x2), some (vI x3), none, none]) pnX2 rfl rfl ?_
  refine wp_aload_n dX2_leastBetween_0 rfl rfl ?_
  refine wp_getR (b := 209) dX2_leastBetween_1 fX2_23 rfl sh204 (by decide) rfl ?_
  refine wp_iload_n dX2_leastBetween_4 rfl rfl ?_
  have g1 : (0 : Int) ≤ x1 ∧ x1 < (11 : Nat) := h.1
  refine wp_aald (b := (210 + 1 * Int.toNat x1)) dX2_leastBetween_5 sh209 (by decide) g1 (ap_get (b := 210) (s := 1) (n := 11) g1) ?_
  refine wp_iconst dX2_leastBetween_6 (by decide) ?_
  refine wp_iald dX2_leastBetween_7 (arr209 g1) (by decide) ?_
  refine wp_aload_n dX2_leastBetween_8 rfl rfl ?_
  refine wp_getR (b := 221) dX2_leastBetween_9 fX2_26 rfl sh204 (by decide) rfl ?_
  refine wp_iconst dX2_leastBetween_12 (by decide) ?_
  have g2 : (0 : Int) ≤ 0 ∧ (0 : Int) < (11 : Nat) := h.2.1
  refine wp_aald (b := (222 + 1 * Int.toNat 0)) dX2_leastBetween_13 sh221 (by decide) g2 (ap_get (b := 222) (s := 1) (n := 11) g2) ?_
  refine wp_iload_n dX2_leastBetween_14 rfl rfl ?_
  refine wp_iald dX2_leastBetween_15 (arr221 g2) h.2.2.1 ?_
  refine wp_iadd dX2_leastBetween_16 ?_
  refine wp_istore dX2_leastBetween_17 (by decide) rfl ?_
  refine wp_iconst dX2_leastBetween_19 (by decide) ?_
  refine wp_istore dX2_leastBetween_20 (by decide) rfl ?_
  exact h.2.2.2
set_option maxHeartbeats 4000000 in
set_option maxRecDepth 10000 in
theorem sX2_leastBetween_22 {K : KK} {d : Nat} {V : Mem} {Q : Option AV → Mem → Prop} (x1 : Int) (x2 : Int) (x3 : Int) (x4 : Int) (x5 : Int) (h : ((x3 < x5 → Q (some (vI x4)) V) ∧ (¬ (x3 < x5) → (((0 : Int) ≤ x1 ∧ x1 < (11 : Nat)) ∧ (((0 : Int) ≤ x5 ∧ x5 < (11 : Nat)) ∧ (((0 : Int) ≤ x5 ∧ x5 < (11 : Nat)) ∧ (((0 : Int) ≤ x2 ∧ x2 < (11 : Nat)) ∧ Wf K (d + 1) mX2_leastBetween 22 [some (vR 204), some (vI x1), some (vI x2), some (vI x3), some (vI (min x4 (w32 ((V (210 + 1 * Int.toNat x1) (Int.toNat x5)) + (V (222 + 1 * Int.toNat x5) (Int.toNat x2)))))), some (vI (w32 (x5 + 1)))] [] V Q))))))) : Wf K (d + 1) mX2_leastBetween 22 [some (vR 204), some (vI x1), some (vI x2), some (vI x3), some (vI x4), some (vI x5)] [] V Q := by
  refine wp_iload dX2_leastBetween_22 rfl ?_
  refine wp_iload_n dX2_leastBetween_24 rfl rfl ?_
  refine wp_icmp_gt (tgt := 60) dX2_leastBetween_25 rfl (fun c1 => ?_) (fun c1 => ?_)
  ·
    refine wp_iload dX2_leastBetween_60 rfl ?_
    exact wp_ireturn dX2_leastBetween_62 rfl ⟨rfl, rfl⟩ ⟨rfl, (h.1 c1)⟩
  ·
    refine wp_iload dX2_leastBetween_28 rfl ?_
    refine wp_aload_n dX2_leastBetween_30 rfl rfl ?_
    refine wp_getR (b := 209) dX2_leastBetween_31 fX2_23 rfl sh204 (by decide) rfl ?_
    refine wp_iload_n dX2_leastBetween_34 rfl rfl ?_
    have g2 : (0 : Int) ≤ x1 ∧ x1 < (11 : Nat) := (h.2 c1).1
    refine wp_aald (b := (210 + 1 * Int.toNat x1)) dX2_leastBetween_35 sh209 (by decide) g2 (ap_get (b := 210) (s := 1) (n := 11) g2) ?_
    refine wp_iload dX2_leastBetween_36 rfl ?_
    refine wp_iald dX2_leastBetween_38 (arr209 g2) (h.2 c1).2.1 ?_
    refine wp_aload_n dX2_leastBetween_39 rfl rfl ?_
    refine wp_getR (b := 221) dX2_leastBetween_40 fX2_26 rfl sh204 (by decide) rfl ?_
    refine wp_iload dX2_leastBetween_43 rfl ?_
    have g3 : (0 : Int) ≤ x5 ∧ x5 < (11 : Nat) := (h.2 c1).2.2.1
    refine wp_aald (b := (222 + 1 * Int.toNat x5)) dX2_leastBetween_45 sh221 (by decide) g3 (ap_get (b := 222) (s := 1) (n := 11) g3) ?_
    refine wp_iload_n dX2_leastBetween_46 rfl rfl ?_
    refine wp_iald dX2_leastBetween_47 (arr221 g3) (h.2 c1).2.2.2.1 ?_
    refine wp_iadd dX2_leastBetween_48 ?_
    refine wp_mmin dX2_leastBetween_49 lX2_55 (by omega) (Nat.le_of_ble_eq_true rfl) ⟨Nat.le_refl _, Nat.le_refl _⟩ ?_
    refine wp_istore dX2_leastBetween_52 (by decide) rfl ?_
    refine wp_iinc dX2_leastBetween_54 rfl rfl ?_
    refine wp_goto (tgt := 22) dX2_leastBetween_57 rfl ?_
    exact (h.2 c1).2.2.2.2
set_option maxHeartbeats 4000000 in
set_option maxRecDepth 10000 in
theorem sX2_endOf {K : KK} {d : Nat} {V : Mem} {Q : Option AV → Mem → Prop} (x1 : Int) (x2 : Int) (h : Wf K d mX2_endOf 2 [some (vR 204), some (vI x1), some (vI x2), some (vI 0), none] [] V Q) : Mf K d mX2_endOf [vR 204, vI x1, vI x2] V Q := by
  refine Mt.of2 (L := [some (vR 204), some (vI x1), some (vI x2), none, none]) pnX2 rfl rfl ?_
  refine wp_iconst dX2_endOf_0 (by decide) ?_
  refine wp_istore_n dX2_endOf_1 rfl (by decide) rfl ?_
  exact h
set_option maxHeartbeats 4000000 in
set_option maxRecDepth 10000 in
theorem sX2_endOf_2 {K : KK} {d : Nat} {V : Mem} {Q : Option AV → Mem → Prop} (x1 : Int) (x2 : Int) (x3 : Int) (h : ((x2 ≤ x3 → Q (some (vI 0)) V) ∧ (¬ (x2 ≤ x3) → (((0 : Int) ≤ x1 ∧ x1 < (11 : Nat)) ∧ (((0 : Int) ≤ (w32 (x3 + 1)) ∧ (w32 (x3 + 1)) < (11 : Nat)) ∧ (((0 : Int) ≤ (w32 (x1 + 1)) ∧ (w32 (x1 + 1)) < (11 : Nat)) ∧ (((0 : Int) ≤ (w32 (x3 + 1)) ∧ (w32 (x3 + 1)) < (11 : Nat)) ∧ (((0 : Int) ≤ x1 ∧ x1 < (11 : Nat)) ∧ (((0 : Int) ≤ x3 ∧ x3 < (11 : Nat)) ∧ (((0 : Int) ≤ (w32 (x1 + 1)) ∧ (w32 (x1 + 1)) < (11 : Nat)) ∧ (((0 : Int) ≤ x3 ∧ x3 < (11 : Nat)) ∧ ((¬ (w32 ((w32 ((w32 ((V (234 + 1 * Int.toNat x1) (Int.toNat (w32 (x3 + 1)))) - (V (234 + 1 * Int.toNat (w32 (x1 + 1))) (Int.toNat (w32 (x3 + 1)))))) - (V (234 + 1 * Int.toNat x1) (Int.toNat x3)))) + (V (234 + 1 * Int.toNat (w32 (x1 + 1))) (Int.toNat x3)))) = 1 → Wf K d mX2_endOf 2 [some (vR 204), some (vI x1), some (vI x2), some (vI (w32 (x3 + 1))), none] [] V Q) ∧ ((w32 ((w32 ((w32 ((V (234 + 1 * Int.toNat x1) (Int.toNat (w32 (x3 + 1)))) - (V (234 + 1 * Int.toNat (w32 (x1 + 1))) (Int.toNat (w32 (x3 + 1)))))) - (V (234 + 1 * Int.toNat x1) (Int.toNat x3)))) + (V (234 + 1 * Int.toNat (w32 (x1 + 1))) (Int.toNat x3)))) = 1 → Q (some (vI x3)) V))))))))))))) : Wf K d mX2_endOf 2 [some (vR 204), some (vI x1), some (vI x2), some (vI x3), none] [] V Q := by
  refine wp_iload_n dX2_endOf_2 rfl rfl ?_
  refine wp_iload_n dX2_endOf_3 rfl rfl ?_
  refine wp_icmp_ge (tgt := 66) dX2_endOf_4 rfl (fun c1 => ?_) (fun c1 => ?_)
  ·
    refine wp_iconst dX2_endOf_66 (by decide) ?_
    exact wp_ireturn dX2_endOf_67 rfl ⟨rfl, rfl⟩ ⟨rfl, (h.1 c1)⟩
  ·
    refine wp_aload_n dX2_endOf_7 rfl rfl ?_
    refine wp_getR (b := 233) dX2_endOf_8 fX2_29 rfl sh204 (by decide) rfl ?_
    refine wp_iload_n dX2_endOf_11 rfl rfl ?_
    have g2 : (0 : Int) ≤ x1 ∧ x1 < (11 : Nat) := (h.2 c1).1
    refine wp_aald (b := (234 + 1 * Int.toNat x1)) dX2_endOf_12 sh233 (by decide) g2 (ap_get (b := 234) (s := 1) (n := 11) g2) ?_
    refine wp_iload_n dX2_endOf_13 rfl rfl ?_
    refine wp_iconst dX2_endOf_14 (by decide) ?_
    refine wp_iadd dX2_endOf_15 ?_
    refine wp_iald dX2_endOf_16 (arr233 g2) (h.2 c1).2.1 ?_
    refine wp_aload_n dX2_endOf_17 rfl rfl ?_
    refine wp_getR (b := 233) dX2_endOf_18 fX2_29 rfl sh204 (by decide) rfl ?_
    refine wp_iload_n dX2_endOf_21 rfl rfl ?_
    refine wp_iconst dX2_endOf_22 (by decide) ?_
    refine wp_iadd dX2_endOf_23 ?_
    have g3 : (0 : Int) ≤ (w32 (x1 + 1)) ∧ (w32 (x1 + 1)) < (11 : Nat) := (h.2 c1).2.2.1
    refine wp_aald (b := (234 + 1 * Int.toNat (w32 (x1 + 1)))) dX2_endOf_24 sh233 (by decide) g3 (ap_get (b := 234) (s := 1) (n := 11) g3) ?_
    refine wp_iload_n dX2_endOf_25 rfl rfl ?_
    refine wp_iconst dX2_endOf_26 (by decide) ?_
    refine wp_iadd dX2_endOf_27 ?_
    refine wp_iald dX2_endOf_28 (arr233 g3) (h.2 c1).2.2.2.1 ?_
    refine wp_isub dX2_endOf_29 ?_
    refine wp_aload_n dX2_endOf_30 rfl rfl ?_
    refine wp_getR (b := 233) dX2_endOf_31 fX2_29 rfl sh204 (by decide) rfl ?_
    refine wp_iload_n dX2_endOf_34 rfl rfl ?_
    have g4 : (0 : Int) ≤ x1 ∧ x1 < (11 : Nat) := (h.2 c1).2.2.2.2.1
    refine wp_aald (b := (234 + 1 * Int.toNat x1)) dX2_endOf_35 sh233 (by decide) g4 (ap_get (b := 234) (s := 1) (n := 11) g4) ?_
    refine wp_iload_n dX2_endOf_36 rfl rfl ?_
    refine wp_iald dX2_endOf_37 (arr233 g4) (h.2 c1).2.2.2.2.2.1 ?_
    refine wp_isub dX2_endOf_38 ?_
    refine wp_aload_n dX2_endOf_39 rfl rfl ?_
    refine wp_getR (b := 233) dX2_endOf_40 fX2_29 rfl sh204 (by decide) rfl ?_
    refine wp_iload_n dX2_endOf_43 rfl rfl ?_
    refine wp_iconst dX2_endOf_44 (by decide) ?_
    refine wp_iadd dX2_endOf_45 ?_
    have g5 : (0 : Int) ≤ (w32 (x1 + 1)) ∧ (w32 (x1 + 1)) < (11 : Nat) := (h.2 c1).2.2.2.2.2.2.1
    refine wp_aald (b := (234 + 1 * Int.toNat (w32 (x1 + 1)))) dX2_endOf_46 sh233 (by decide) g5 (ap_get (b := 234) (s := 1) (n := 11) g5) ?_
    refine wp_iload_n dX2_endOf_47 rfl rfl ?_
    refine wp_iald dX2_endOf_48 (arr233 g5) (h.2 c1).2.2.2.2.2.2.2.1 ?_
    refine wp_iadd dX2_endOf_49 ?_
    refine wp_istore dX2_endOf_50 (by decide) rfl ?_
    refine wp_iload dX2_endOf_52 rfl ?_
    refine wp_iconst dX2_endOf_54 (by decide) ?_
    refine wp_icmp_ne (tgt := 60) dX2_endOf_55 rfl (fun c6 => ?_) (fun c6 => ?_)
    ·
      refine wp_iinc dX2_endOf_60 rfl rfl ?_
      refine wp_goto (tgt := 2) dX2_endOf_63 rfl ?_
      exact wp_loc (L2 := [some (vR 204), some (vI x1), some (vI x2), some (vI (w32 (x3 + 1))), none]) ⟨rfl, ⟨rfl, ⟨rfl, ⟨rfl, trivial⟩⟩⟩⟩ ((h.2 c1).2.2.2.2.2.2.2.2.1 c6)
    ·
      refine wp_iload_n dX2_endOf_58 rfl rfl ?_
      exact wp_ireturn dX2_endOf_59 rfl ⟨rfl, rfl⟩ ⟨rfl, ((h.2 c1).2.2.2.2.2.2.2.2.2 c6)⟩
set_option maxHeartbeats 4000000 in
set_option maxRecDepth 10000 in
theorem sX2_raise {K : KK} {d : Nat} {V : Mem} {Q : Option AV → Mem → Prop} (a1 : Nat) (x2 : Int) (h1 : IsBraid a1) (hE : kE K = false) (h : Wf K (d + 2) mX2_raise 10 [some (vR 204), some (vR a1), some (vI x2), some (vI 1)] [] (upm (upm (upm (cpm V (a1 + 1) (Int.toNat 0) 208 (Int.toNat 0) (Int.toNat 10)) 207 1 ((cpm V (a1 + 1) (Int.toNat 0) 208 (Int.toNat 0) (Int.toNat 10)) a1 1)) 207 2 ((upm (cpm V (a1 + 1) (Int.toNat 0) 208 (Int.toNat 0) (Int.toNat 10)) 207 1 ((cpm V (a1 + 1) (Int.toNat 0) 208 (Int.toNat 0) (Int.toNat 10)) a1 1)) a1 2)) 207 3 ((upm (upm (cpm V (a1 + 1) (Int.toNat 0) 208 (Int.toNat 0) (Int.toNat 10)) 207 1 ((cpm V (a1 + 1) (Int.toNat 0) 208 (Int.toNat 0) (Int.toNat 10)) a1 1)) 207 2 ((upm (cpm V (a1 + 1) (Int.toNat 0) 208 (Int.toNat 0) (Int.toNat 10)) 207 1 ((cpm V (a1 + 1) (Int.toNat 0) 208 (Int.toNat 0) (Int.toNat 10)) a1 1)) a1 2)) a1 3)) Q) : Mf K (d + 2) mX2_raise [vR 204, vR a1, vI x2] V Q := by
  refine Mt.of2 (L := [some (vR 204), some (vR a1), some (vI x2), none]) pnX2 rfl rfl ?_
  refine wp_aload_n dX2_raise_0 rfl rfl ?_
  refine wp_getR (b := 207) dX2_raise_1 fX2_18 rfl sh204 (by decide) rfl ?_
  refine wp_aload_n dX2_raise_4 rfl rfl ?_
  refine wp_inlV (d' := (d + 1)) (S := []) (as := [vR a1]) dX2_raise_5 lX2_60 (by omega) sh207 rfl rfl (Nat.le_of_ble_eq_true rfl) ⟨Nat.le_refl _, Nat.le_refl _⟩ (Mt.of2 (L := [some (vR 207), some (vR a1)]) pnX0 rfl rfl ?_)
  refine wp_aload_n dX0_copyFrom_0 rfl rfl ?_
  refine wp_getR (b := (a1 + 1)) dX0_copyFrom_1 fX0_9 rfl h1.1 (by decide) rfl ?_
  refine wp_iconst dX0_copyFrom_4 (by decide) ?_
  refine wp_aload_n dX0_copyFrom_5 rfl rfl ?_
  refine wp_getR (b := 208) dX0_copyFrom_6 fX0_9 rfl sh207 (by decide) rfl ?_
  refine wp_iconst dX0_copyFrom_9 (by decide) ?_
  refine wp_aload_n dX0_copyFrom_10 rfl rfl ?_
  refine wp_getR (b := 208) dX0_copyFrom_11 fX0_9 rfl sh207 (by decide) rfl ?_
  refine wp_alen dX0_copyFrom_14 sh208 (by decide) (by decide) ?_
  refine wp_copy dX0_copyFrom_15 lX0_33 hE (by omega) (Nat.le_of_ble_eq_true rfl) h1.2 sh208 (by decide) ?_
  refine wp_aload_n dX0_copyFrom_18 rfl rfl ?_
  refine wp_aload_n dX0_copyFrom_19 rfl rfl ?_
  refine wp_getJ dX0_copyFrom_20 fX0_39 rfl h1.1 (by decide) ?_
  refine wp_putJ dX0_copyFrom_23 fwX0_39 rfl sh207 (by decide) ?_
  refine wp_aload_n dX0_copyFrom_26 rfl rfl ?_
  refine wp_aload_n dX0_copyFrom_27 rfl rfl ?_
  refine wp_getI dX0_copyFrom_28 fX0_15 rfl h1.1 (by decide) ?_
  refine wp_putI dX0_copyFrom_31 fwX0_15 rfl sh207 (by decide) ?_
  refine wp_aload_n dX0_copyFrom_34 rfl rfl ?_
  refine wp_aload_n dX0_copyFrom_35 rfl rfl ?_
  refine wp_getI dX0_copyFrom_36 fX0_43 rfl h1.1 (by decide) ?_
  refine wp_putI dX0_copyFrom_39 fwX0_43 rfl sh207 (by decide) ?_
  refine wp_return dX0_copyFrom_42 rfl ⟨rfl, rfl⟩ ?_
  show Wp _ _ _ _ _ 8 _ [] _ _ _ _ _
  refine wp_iconst dX2_raise_8 (by decide) ?_
  refine wp_istore_n dX2_raise_9 rfl (by decide) rfl ?_
  exact h
set_option maxHeartbeats 4000000 in
set_option maxRecDepth 10000 in
theorem sX2_raise_10 {K : KK} {d : Nat} {V : Mem} {Q : Option AV → Mem → Prop} (a1 : Nat) (x2 : Int) (x3 : Int) (h1 : IsBraid a1) (hE : kE K = false) (h : ((x2 ≤ x3 → Q (some (vI x2)) V) ∧ (¬ (x2 ≤ x3) → Mf K (d + 1) mX2_join [vR 204, vR 207, vR a1, vR 205] V (fun r V2 => r = none ∧ Mf K (d + 1) mX0_isSame [vR 205, vR 207] V2 (fun r V3 => ∃ z3, r = some (vI z3) ∧ ((z3 = 0 → Wf K (d + 2) mX2_raise 10 [some (vR 204), some (vR a1), some (vI x2), some (vI (w32 (x3 + 1)))] [] (upm (upm (upm (cpm V3 206 (Int.toNat 0) 208 (Int.toNat 0) (Int.toNat 10)) 207 1 ((cpm V3 206 (Int.toNat 0) 208 (Int.toNat 0) (Int.toNat 10)) 205 1)) 207 2 ((upm (cpm V3 206 (Int.toNat 0) 208 (Int.toNat 0) (Int.toNat 10)) 207 1 ((cpm V3 206 (Int.toNat 0) 208 (Int.toNat 0) (Int.toNat 10)) 205 1)) 205 2)) 207 3 ((upm (upm (cpm V3 206 (Int.toNat 0) 208 (Int.toNat 0) (Int.toNat 10)) 207 1 ((cpm V3 206 (Int.toNat 0) 208 (Int.toNat 0) (Int.toNat 10)) 205 1)) 207 2 ((upm (cpm V3 206 (Int.toNat 0) 208 (Int.toNat 0) (Int.toNat 10)) 207 1 ((cpm V3 206 (Int.toNat 0) 208 (Int.toNat 0) (Int.toNat 10)) 205 1)) 205 2)) 205 3)) Q) ∧ (¬ (z3 = 0) → Q (some (vI x3)) V3))))))) : Wf K (d + 2) mX2_raise 10 [some (vR 204), some (vR a1), some (vI x2), some (vI x3)] [] V Q := by
  refine wp_iload_n dX2_raise_10 rfl rfl ?_
  refine wp_iload_n dX2_raise_11 rfl rfl ?_
  refine wp_icmp_ge (tgt := 61) dX2_raise_12 rfl (fun c1 => ?_) (fun c1 => ?_)
  ·
    refine wp_iload_n dX2_raise_61 rfl rfl ?_
    exact wp_ireturn dX2_raise_62 rfl ⟨rfl, rfl⟩ ⟨rfl, (h.1 c1)⟩
  ·
    refine wp_aload_n dX2_raise_15 rfl rfl ?_
    refine wp_aload_n dX2_raise_16 rfl rfl ?_
    refine wp_getR (b := 207) dX2_raise_17 fX2_18 rfl sh204 (by decide) rfl ?_
    refine wp_aload_n dX2_raise_20 rfl rfl ?_
    refine wp_aload_n dX2_raise_21 rfl rfl ?_
    refine wp_getR (b := 205) dX2_raise_22 fX2_12 rfl sh204 (by decide) rfl ?_
    refine wp_callV (S := []) (as := [vR 207, vR a1, vR 205]) dX2_raise_25 lX2_64 ((h.2 c1)) (by omega) sh204 rfl rfl (Nat.le_of_ble_eq_true rfl) ⟨Nat.le_refl _, Nat.le_refl _⟩ ?_
    rintro _ _ V2 ⟨rfl, rfl, q2⟩
    show Wp _ _ _ _ _ 28 _ [] _ _ _ _ _
    refine wp_aload_n dX2_raise_28 rfl rfl ?_
    refine wp_getR (b := 205) dX2_raise_29 fX2_12 rfl sh204 (by decide) rfl ?_
    refine wp_aload_n dX2_raise_32 rfl rfl ?_
    refine wp_getR (b := 207) dX2_raise_33 fX2_18 rfl sh204 (by decide) rfl ?_
    refine wp_callV (S := []) (as := [vR 207]) dX2_raise_36 lX2_68 (q2) (by omega) sh205 rfl rfl (Nat.le_of_ble_eq_true rfl) ⟨Nat.le_refl _, Nat.le_refl _⟩ ?_
    rintro _ _ V3 ⟨rfl, z3, rfl, q3⟩
    show Wp _ _ _ _ _ 39 _ [vI z3] _ _ _ _ _
    refine wp_if_eq (tgt := 44) dX2_raise_39 rfl (fun c4 => ?_) (fun c4 => ?_)
    ·
      refine wp_aload_n dX2_raise_44 rfl rfl ?_
      refine wp_getR (b := 207) dX2_raise_45 fX2_18 rfl sh204 (by decide) rfl ?_
      refine wp_aload_n dX2_raise_48 rfl rfl ?_
      refine wp_getR (b := 205) dX2_raise_49 fX2_12 rfl sh204 (by decide) rfl ?_
      refine wp_inlV (d' := (d + 1)) (S := []) (as := [vR 205]) dX2_raise_52 lX2_60 (by omega) sh207 rfl rfl (Nat.le_of_ble_eq_true rfl) ⟨Nat.le_refl _, Nat.le_refl _⟩ (Mt.of2 (L := [some (vR 207), some (vR 205)]) pnX0 rfl rfl ?_)
      refine wp_aload_n dX0_copyFrom_0 rfl rfl ?_
      refine wp_getR (b := 206) dX0_copyFrom_1 fX0_9 rfl sh205 (by decide) rfl ?_
      refine wp_iconst dX0_copyFrom_4 (by decide) ?_
      refine wp_aload_n dX0_copyFrom_5 rfl rfl ?_
      refine wp_getR (b := 208) dX0_copyFrom_6 fX0_9 rfl sh207 (by decide) rfl ?_
      refine wp_iconst dX0_copyFrom_9 (by decide) ?_
      refine wp_aload_n dX0_copyFrom_10 rfl rfl ?_
      refine wp_getR (b := 208) dX0_copyFrom_11 fX0_9 rfl sh207 (by decide) rfl ?_
      refine wp_alen dX0_copyFrom_14 sh208 (by decide) (by decide) ?_
      refine wp_copy dX0_copyFrom_15 lX0_33 hE (by omega) (Nat.le_of_ble_eq_true rfl) sh206 sh208 (by decide) ?_
      refine wp_aload_n dX0_copyFrom_18 rfl rfl ?_
      refine wp_aload_n dX0_copyFrom_19 rfl rfl ?_
      refine wp_getJ dX0_copyFrom_20 fX0_39 rfl sh205 (by decide) ?_
      refine wp_putJ dX0_copyFrom_23 fwX0_39 rfl sh207 (by decide) ?_
      refine wp_aload_n dX0_copyFrom_26 rfl rfl ?_
      refine wp_aload_n dX0_copyFrom_27 rfl rfl ?_
      refine wp_getI dX0_copyFrom_28 fX0_15 rfl sh205 (by decide) ?_
      refine wp_putI dX0_copyFrom_31 fwX0_15 rfl sh207 (by decide) ?_
      refine wp_aload_n dX0_copyFrom_34 rfl rfl ?_
      refine wp_aload_n dX0_copyFrom_35 rfl rfl ?_
      refine wp_getI dX0_copyFrom_36 fX0_43 rfl sh205 (by decide) ?_
      refine wp_putI dX0_copyFrom_39 fwX0_43 rfl sh207 (by decide) ?_
      refine wp_return dX0_copyFrom_42 rfl ⟨rfl, rfl⟩ ?_
      show Wp _ _ _ _ _ 55 _ [] _ _ _ _ _
      refine wp_iinc dX2_raise_55 rfl rfl ?_
      refine wp_goto (tgt := 10) dX2_raise_58 rfl ?_
      exact (q3.1 c4)
    ·
      refine wp_iload_n dX2_raise_42 rfl rfl ?_
      exact wp_ireturn dX2_raise_43 rfl ⟨rfl, rfl⟩ ⟨rfl, (q3.2 c4)⟩
set_option maxHeartbeats 4000000 in
set_option maxRecDepth 10000 in
theorem sX2_isUnder {K : KK} {d : Nat} {V : Mem} {Q : Option AV → Mem → Prop} (a1 : Nat) (a2 : Nat) (h1 : IsBraid a1) (h2 : IsBraid a2) (h : Mf K d mX2_tabulate [vR a1, vR 209] V (fun r V1 => r = none ∧ Mf K d mX2_tabulate [vR a2, vR 221] V1 (fun r V2 => r = none ∧ Wf K (d + 1) mX2_isUnder 18 [some (vR 204), some (vR a1), none, some (vI 0), none] [] V2 Q))) : Mf K (d + 1) mX2_isUnder [vR 204, vR a1, vR a2] V Q := by
  refine Mt.of2 (L := [some (vR 204), some (vR a1), some (vR a2), none, none]) pnX2 rfl rfl ?_
  refine wp_aload_n dX2_isUnder_0 rfl rfl ?_
  refine wp_aload_n dX2_isUnder_1 rfl rfl ?_
  refine wp_getR (b := 209) dX2_isUnder_2 fX2_23 rfl sh204 (by decide) rfl ?_
  refine wp_callS (S := []) (as := [vR a1, vR 209]) dX2_isUnder_5 lX2_43 (h) (by omega) rfl rfl (Nat.le_of_ble_eq_true rfl) ⟨Nat.le_refl _, Nat.le_refl _⟩ ?_
  rintro _ _ V1 ⟨rfl, rfl, q1⟩
  show Wp _ _ _ _ _ 8 _ [] _ _ _ _ _
  refine wp_aload_n dX2_isUnder_8 rfl rfl ?_
  refine wp_aload_n dX2_isUnder_9 rfl rfl ?_
  refine wp_getR (b := 221) dX2_isUnder_10 fX2_26 rfl sh204 (by decide) rfl ?_
  refine wp_callS (S := []) (as := [vR a2, vR 221]) dX2_isUnder_13 lX2_43 (q1) (by omega) rfl rfl (Nat.le_of_ble_eq_true rfl) ⟨Nat.le_refl _, Nat.le_refl _⟩ ?_
  rintro _ _ V2 ⟨rfl, rfl, q2⟩
  show Wp _ _ _ _ _ 16 _ [] _ _ _ _ _
  refine wp_iconst dX2_isUnder_16 (by decide) ?_
  refine wp_istore_n dX2_isUnder_17 rfl (by decide) rfl ?_
  exact wp_loc (L2 := [some (vR 204), some (vR a1), none, some (vI 0), none]) ⟨rfl, ⟨rfl, ⟨rfl, trivial⟩⟩⟩ q2
set_option maxHeartbeats 4000000 in
set_option maxRecDepth 10000 in
theorem sX2_isUnder_18 {K : KK} {d : Nat} {V : Mem} {Q : Option AV → Mem → Prop} (a1 : Nat) (a2 : Nat) (x3 : Int) (h1 : IsBraid a1) (h2 : IsBraid a2) (h : (((V a1 2) < x3 → Q (some (vI 1)) V) ∧ (¬ ((V a1 2) < x3) → Wf K (d + 1) mX2_isUnder 29 [some (vR 204), some (vR a1), none, some (vI x3), some (vI 0)] [] V Q))) : Wf K (d + 1) mX2_isUnder 18 [some (vR 204), some (vR a1), none, some (vI x3), none] [] V Q := by
  refine wp_iload_n dX2_isUnder_18 rfl rfl ?_
  refine wp_aload_n dX2_isUnder_19 rfl rfl ?_
  refine wp_getI dX2_isUnder_20 fX2_36 rfl h1.1 (by decide) ?_
  refine wp_icmp_gt (tgt := 73) dX2_isUnder_23 rfl (fun c1 => ?_) (fun c1 => ?_)
  ·
    refine wp_iconst dX2_isUnder_73 (by decide) ?_
    exact wp_zreturn dX2_isUnder_74 rfl ⟨rfl, rfl⟩ (by decide) ⟨rfl, (h.1 c1)⟩
  ·
    refine wp_iconst dX2_isUnder_26 (by decide) ?_
    refine wp_istore dX2_isUnder_27 (by decide) rfl ?_
    exact (h.2 c1)
set_option maxHeartbeats 4000000 in
set_option maxRecDepth 10000 in
theorem sX2_isUnder_29 {K : KK} {d : Nat} {V : Mem} {Q : Option AV → Mem → Prop} (a1 : Nat) (a2 : Nat) (x3 : Int) (x4 : Int) (h1 : IsBraid a1) (h2 : IsBraid a2) (h : (((V a1 2) < x4 → Wf K (d + 1) mX2_isUnder 18 [some (vR 204), some (vR a1), none, some (vI (w32 (x3 + 1))), none] [] V Q) ∧ (¬ ((V a1 2) < x4) → (((0 : Int) ≤ x3 ∧ x3 < (11 : Nat)) ∧ (((0 : Int) ≤ x4 ∧ x4 < (11 : Nat)) ∧ (((0 : Int) ≤ x3 ∧ x3 < (11 : Nat)) ∧ (((0 : Int) ≤ x4 ∧ x4 < (11 : Nat)) ∧ (((V (210 + 1 * Int.toNat x3) (Int.toNat x4)) ≤ (V (222 + 1 * Int.toNat x3) (Int.toNat x4)) → Wf K (d + 1) mX2_isUnder 29 [some (vR 204), some (vR a1), none, some (vI x3), some (vI (w32 (x4 + 1)))] [] V Q) ∧ (¬ ((V (210 + 1 * Int.toNat x3) (Int.toNat x4)) ≤ (V (222 + 1 * Int.toNat x3) (Int.toNat x4))) → Q (some (vI 0)) V))))))))) : Wf K (d + 1) mX2_isUnder 29 [some (vR 204), some (vR a1), none, some (vI x3), some (vI x4)] [] V Q := by
  refine wp_iload dX2_isUnder_29 rfl ?_
  refine wp_aload_n dX2_isUnder_31 rfl rfl ?_
  refine wp_getI dX2_isUnder_32 fX2_36 rfl h1.1 (by decide) ?_
  refine wp_icmp_gt (tgt := 67) dX2_isUnder_35 rfl (fun c1 => ?_) (fun c1 => ?_)
  ·
    refine wp_iinc dX2_isUnder_67 rfl rfl ?_
    refine wp_goto (tgt := 18) dX2_isUnder_70 rfl ?_
    exact wp_loc (L2 := [some (vR 204), some (vR a1), none, some (vI (w32 (x3 + 1))), none]) ⟨rfl, ⟨rfl, ⟨rfl, trivial⟩⟩⟩ (h.1 c1)
  ·
    refine wp_aload_n dX2_isUnder_38 rfl rfl ?_
    refine wp_getR (b := 209) dX2_isUnder_39 fX2_23 rfl sh204 (by decide) rfl ?_
    refine wp_iload_n dX2_isUnder_42 rfl rfl ?_
    have g2 : (0 : Int) ≤ x3 ∧ x3 < (11 : Nat) := (h.2 c1).1
    refine wp_aald (b := (210 + 1 * Int.toNat x3)) dX2_isUnder_43 sh209 (by decide) g2 (ap_get (b := 210) (s := 1) (n := 11) g2) ?_
    refine wp_iload dX2_isUnder_44 rfl ?_
    refine wp_iald dX2_isUnder_46 (arr209 g2) (h.2 c1).2.1 ?_
    refine wp_aload_n dX2_isUnder_47 rfl rfl ?_
    refine wp_getR (b := 221) dX2_isUnder_48 fX2_26 rfl sh204 (by decide) rfl ?_
    refine wp_iload_n dX2_isUnder_51 rfl rfl ?_
    have g3 : (0 : Int) ≤ x3 ∧ x3 < (11 : Nat) := (h.2 c1).2.2.1
    refine wp_aald (b := (222 + 1 * Int.toNat x3)) dX2_isUnder_52 sh221 (by decide) g3 (ap_get (b := 222) (s := 1) (n := 11) g3) ?_
    refine wp_iload dX2_isUnder_53 rfl ?_
    refine wp_iald dX2_isUnder_55 (arr221 g3) (h.2 c1).2.2.2.1 ?_
    refine wp_icmp_le (tgt := 61) dX2_isUnder_56 rfl (fun c4 => ?_) (fun c4 => ?_)
    ·
      refine wp_iinc dX2_isUnder_61 rfl rfl ?_
      refine wp_goto (tgt := 29) dX2_isUnder_64 rfl ?_
      exact ((h.2 c1).2.2.2.2.1 c4)
    ·
      refine wp_iconst dX2_isUnder_59 (by decide) ?_
      exact wp_zreturn dX2_isUnder_60 rfl ⟨rfl, rfl⟩ (by decide) ⟨rfl, ((h.2 c1).2.2.2.2.2 c4)⟩
set_option maxHeartbeats 4000000 in
set_option maxRecDepth 10000 in
theorem sX2_knitStep {K : KK} {d : Nat} {V : Mem} {Q : Option AV → Mem → Prop} (a1 : Nat) (x2 : Int) (h1 : IsBraid a1) (h : Wf K (d + 1) mX2_knitStep 2 [some (vR 204), some (vR a1), some (vI x2), some (vI 0), none, none] [] V Q) : Mf K (d + 1) mX2_knitStep [vR 204, vR a1, vI x2] V Q := by
  refine Mt.of2 (L := [some (vR 204), some (vR a1), some (vI x2), none, none, none]) pnX2 rfl rfl ?_
  refine wp_iconst dX2_knitStep_0 (by decide) ?_
  refine wp_istore_n dX2_knitStep_1 rfl (by decide) rfl ?_
  exact h
set_option maxHeartbeats 4000000 in
set_option maxRecDepth 10000 in
theorem sX2_knitStep_2 {K : KK} {d : Nat} {V : Mem} {Q : Option AV → Mem → Prop} (a1 : Nat) (x2 : Int) (x3 : Int) (h1 : IsBraid a1) (h : (((V a1 2) ≤ x3 → Wf K (d + 1) mX2_knitStep 25 [some (vR 204), some (vR a1), some (vI x2), some (vI 0), none, none] [] V Q) ∧ (¬ ((V a1 2) ≤ x3) → (((0 : Int) ≤ x3 ∧ x3 < (10 : Nat)) ∧ Wf K (d + 1) mX2_knitStep 2 [some (vR 204), some (vR a1), some (vI x2), some (vI (w32 (x3 + 1))), none, none] [] (upm V 245 (Int.toNat x3) x3) Q)))) : Wf K (d + 1) mX2_knitStep 2 [some (vR 204), some (vR a1), some (vI x2), some (vI x3), none, none] [] V Q := by
  refine wp_iload_n dX2_knitStep_2 rfl rfl ?_
  refine wp_aload_n dX2_knitStep_3 rfl rfl ?_
  refine wp_getI dX2_knitStep_4 fX2_36 rfl h1.1 (by decide) ?_
  refine wp_icmp_ge (tgt := 23) dX2_knitStep_7 rfl (fun c1 => ?_) (fun c1 => ?_)
  ·
    refine wp_iconst dX2_knitStep_23 (by decide) ?_
    refine wp_istore_n dX2_knitStep_24 rfl (by decide) rfl ?_
    exact (h.1 c1)
  ·
    refine wp_aload_n dX2_knitStep_10 rfl rfl ?_
    refine wp_getR (b := 245) dX2_knitStep_11 fX2_32 rfl sh204 (by decide) rfl ?_
    refine wp_iload_n dX2_knitStep_14 rfl rfl ?_
    refine wp_iload_n dX2_knitStep_15 rfl rfl ?_
    refine wp_iast dX2_knitStep_16 sh245 (h.2 c1).1 ?_
    refine wp_iinc dX2_knitStep_17 rfl rfl ?_
    refine wp_goto (tgt := 2) dX2_knitStep_20 rfl ?_
    exact (h.2 c1).2
set_option maxHeartbeats 4000000 in
set_option maxRecDepth 10000 in
theorem sX2_knitStep_25 {K : KK} {d : Nat} {V : Mem} {Q : Option AV → Mem → Prop} (a1 : Nat) (x2 : Int) (x3 : Int) (h1 : IsBraid a1) (h : ((45 ≤ x3 → Q (some (vI (-1))) V) ∧ (¬ (45 ≤ x3) → Mf K d mX2_leastCrossing [vR 204, vR a1] V (fun r V2 => ∃ z2, r = some (vI z2) ∧ ((z2 = (-1) → Q (some (vI z2)) V2) ∧ (¬ (z2 = (-1)) → ((¬ x3 = x2 → (((0 : Int) ≤ z2 ∧ z2 < (10 : Nat)) ∧ (((0 : Int) ≤ (w32 (z2 + 1)) ∧ (w32 (z2 + 1)) < (10 : Nat)) ∧ (((0 : Int) ≤ z2 ∧ z2 < (10 : Nat)) ∧ (((0 : Int) ≤ (w32 (z2 + 1)) ∧ (w32 (z2 + 1)) < (10 : Nat)) ∧ Wf K (d + 1) mX2_knitStep 25 [some (vR 204), some (vR a1), some (vI x2), some (vI (w32 (x3 + 1))), none, none] [] (upm (upm V2 245 (Int.toNat z2) (V2 245 (Int.toNat (w32 (z2 + 1))))) 245 (Int.toNat (w32 (z2 + 1))) (V2 245 (Int.toNat z2))) Q))))) ∧ (x3 = x2 → Q (some (vI z2)) V2)))))))) : Wf K (d + 1) mX2_knitStep 25 [some (vR 204), some (vR a1), some (vI x2), some (vI x3), none, none] [] V Q := by
  refine wp_iload_n dX2_knitStep_25 rfl rfl ?_
  refine wp_bipush dX2_knitStep_26 (by decide) ?_
  refine wp_icmp_ge (tgt := 94) dX2_knitStep_28 rfl (fun c1 => ?_) (fun c1 => ?_)
  ·
    refine wp_iconst dX2_knitStep_94 (by decide) ?_
    exact wp_ireturn dX2_knitStep_95 rfl ⟨rfl, rfl⟩ ⟨rfl, (h.1 c1)⟩
  ·
    refine wp_aload_n dX2_knitStep_31 rfl rfl ?_
    refine wp_aload_n dX2_knitStep_32 rfl rfl ?_
    refine wp_callV (S := []) (as := [vR a1]) dX2_knitStep_33 lX2_72 ((h.2 c1)) (by omega) sh204 rfl rfl (Nat.le_of_ble_eq_true rfl) ⟨Nat.le_refl _, Nat.le_refl _⟩ ?_
    rintro _ _ V2 ⟨rfl, z2, rfl, q2⟩
    show Wp _ _ _ _ _ 36 _ [vI z2] _ _ _ _ _
    refine wp_istore dX2_knitStep_36 (by decide) rfl ?_
    refine wp_iload dX2_knitStep_38 rfl ?_
    refine wp_iconst dX2_knitStep_40 (by decide) ?_
    refine wp_icmp_eq (tgt := 49) dX2_knitStep_41 rfl (fun c3 => ?_) (fun c3 => ?_)
    ·
      refine wp_iload dX2_knitStep_49 rfl ?_
      exact wp_ireturn dX2_knitStep_51 rfl ⟨rfl, rfl⟩ ⟨rfl, (q2.1 c3)⟩
    ·
      refine wp_iload_n dX2_knitStep_44 rfl rfl ?_
      refine wp_iload_n dX2_knitStep_45 rfl rfl ?_
      refine wp_icmp_ne (tgt := 52) dX2_knitStep_46 rfl (fun c4 => ?_) (fun c4 => ?_)
      ·
        refine wp_aload_n dX2_knitStep_52 rfl rfl ?_
        refine wp_getR (b := 245) dX2_knitStep_53 fX2_32 rfl sh204 (by decide) rfl ?_
        refine wp_iload dX2_knitStep_56 rfl ?_
        refine wp_iald dX2_knitStep_58 sh245 ((q2.2 c3).1 c4).1 ?_
        refine wp_istore dX2_knitStep_59 (by decide) rfl ?_
        refine wp_aload_n dX2_knitStep_61 rfl rfl ?_
        refine wp_getR (b := 245) dX2_knitStep_62 fX2_32 rfl sh204 (by decide) rfl ?_
        refine wp_iload dX2_knitStep_65 rfl ?_
        refine wp_aload_n dX2_knitStep_67 rfl rfl ?_
        refine wp_getR (b := 245) dX2_knitStep_68 fX2_32 rfl sh204 (by decide) rfl ?_
        refine wp_iload dX2_knitStep_71 rfl ?_
        refine wp_iconst dX2_knitStep_73 (by decide) ?_
        refine wp_iadd dX2_knitStep_74 ?_
        refine wp_iald dX2_knitStep_75 sh245 ((q2.2 c3).1 c4).2.1 ?_
        refine wp_iast dX2_knitStep_76 sh245 ((q2.2 c3).1 c4).2.2.1 ?_
        refine wp_aload_n dX2_knitStep_77 rfl rfl ?_
        refine wp_getR (b := 245) dX2_knitStep_78 fX2_32 rfl sh204 (by decide) rfl ?_
        refine wp_iload dX2_knitStep_81 rfl ?_
        refine wp_iconst dX2_knitStep_83 (by decide) ?_
        refine wp_iadd dX2_knitStep_84 ?_
        refine wp_iload dX2_knitStep_85 rfl ?_
        refine wp_iast dX2_knitStep_87 sh245 ((q2.2 c3).1 c4).2.2.2.1 ?_
        refine wp_iinc dX2_knitStep_88 rfl rfl ?_
        refine wp_goto (tgt := 25) dX2_knitStep_91 rfl ?_
        exact wp_loc (L2 := [some (vR 204), some (vR a1), some (vI x2), some (vI (w32 (x3 + 1))), none, none]) ⟨rfl, ⟨rfl, ⟨rfl, ⟨rfl, trivial⟩⟩⟩⟩ ((q2.2 c3).1 c4).2.2.2.2
      ·
        refine wp_iload dX2_knitStep_49 rfl ?_
        exact wp_ireturn dX2_knitStep_51 rfl ⟨rfl, rfl⟩ ⟨rfl, ((q2.2 c3).2 c4)⟩
set_option maxHeartbeats 4000000 in
set_option maxRecDepth 10000 in
theorem sX2_leastCrossing {K : KK} {d : Nat} {V : Mem} {Q : Option AV → Mem → Prop} (a1 : Nat) (h1 : IsBraid a1) (h : Wf K d mX2_leastCrossing 2 [some (vR 204), some (vR a1), some (vI 0)] [] V Q) : Mf K d mX2_leastCrossing [vR 204, vR a1] V Q := by
  refine Mt.of2 (L := [some (vR 204), some (vR a1), none]) pnX2 rfl rfl ?_
  refine wp_iconst dX2_leastCrossing_0 (by decide) ?_
  refine wp_istore_n dX2_leastCrossing_1 rfl (by decide) rfl ?_
  exact h
set_option maxHeartbeats 4000000 in
set_option maxRecDepth 10000 in
theorem sX2_leastCrossing_2 {K : KK} {d : Nat} {V : Mem} {Q : Option AV → Mem → Prop} (a1 : Nat) (x2 : Int) (h1 : IsBraid a1) (h : (((V a1 2) ≤ (w32 (x2 + 1)) → Q (some (vI (-1))) V) ∧ (¬ ((V a1 2) ≤ (w32 (x2 + 1))) → (((0 : Int) ≤ x2 ∧ x2 < (10 : Nat)) ∧ (((0 : Int) ≤ (V 245 (Int.toNat x2)) ∧ (V 245 (Int.toNat x2)) < (10 : Nat)) ∧ (((0 : Int) ≤ (w32 (x2 + 1)) ∧ (w32 (x2 + 1)) < (10 : Nat)) ∧ (((0 : Int) ≤ (V 245 (Int.toNat (w32 (x2 + 1)))) ∧ (V 245 (Int.toNat (w32 (x2 + 1)))) < (10 : Nat)) ∧ (((V (a1 + 1) (Int.toNat (V 245 (Int.toNat x2)))) ≤ (V (a1 + 1) (Int.toNat (V 245 (Int.toNat (w32 (x2 + 1)))))) → Wf K d mX2_leastCrossing 2 [some (vR 204), some (vR a1), some (vI (w32 (x2 + 1)))] [] V Q) ∧ (¬ ((V (a1 + 1) (Int.toNat (V 245 (Int.toNat x2)))) ≤ (V (a1 + 1) (Int.toNat (V 245 (Int.toNat (w32 (x2 + 1))))))) → Q (some (vI x2)) V))))))))) : Wf K d mX2_leastCrossing 2 [some (vR 204), some (vR a1), some (vI x2)] [] V Q := by
  refine wp_iload_n dX2_leastCrossing_2 rfl rfl ?_
  refine wp_iconst dX2_leastCrossing_3 (by decide) ?_
  refine wp_iadd dX2_leastCrossing_4 ?_
  refine wp_aload_n dX2_leastCrossing_5 rfl rfl ?_
  refine wp_getI dX2_leastCrossing_6 fX2_36 rfl h1.1 (by decide) ?_
  refine wp_icmp_ge (tgt := 47) dX2_leastCrossing_9 rfl (fun c1 => ?_) (fun c1 => ?_)
  ·
    refine wp_iconst dX2_leastCrossing_47 (by decide) ?_
    exact wp_ireturn dX2_leastCrossing_48 rfl ⟨rfl, rfl⟩ ⟨rfl, (h.1 c1)⟩
  ·
    refine wp_aload_n dX2_leastCrossing_12 rfl rfl ?_
    refine wp_getR (b := (a1 + 1)) dX2_leastCrossing_13 fX2_40 rfl h1.1 (by decide) rfl ?_
    refine wp_aload_n dX2_leastCrossing_16 rfl rfl ?_
    refine wp_getR (b := 245) dX2_leastCrossing_17 fX2_32 rfl sh204 (by decide) rfl ?_
    refine wp_iload_n dX2_leastCrossing_20 rfl rfl ?_
    refine wp_iald dX2_leastCrossing_21 sh245 (h.2 c1).1 ?_
    refine wp_iald dX2_leastCrossing_22 h1.2 (h.2 c1).2.1 ?_
    refine wp_aload_n dX2_leastCrossing_23 rfl rfl ?_
    refine wp_getR (b := (a1 + 1)) dX2_leastCrossing_24 fX2_40 rfl h1.1 (by decide) rfl ?_
    refine wp_aload_n dX2_leastCrossing_27 rfl rfl ?_
    refine wp_getR (b := 245) dX2_leastCrossing_28 fX2_32 rfl sh204 (by decide) rfl ?_
    refine wp_iload_n dX2_leastCrossing_31 rfl rfl ?_
    refine wp_iconst dX2_leastCrossing_32 (by decide) ?_
    refine wp_iadd dX2_leastCrossing_33 ?_
    refine wp_iald dX2_leastCrossing_34 sh245 (h.2 c1).2.2.1 ?_
    refine wp_iald dX2_leastCrossing_35 h1.2 (h.2 c1).2.2.2.1 ?_
    refine wp_icmp_le (tgt := 41) dX2_leastCrossing_36 rfl (fun c2 => ?_) (fun c2 => ?_)
    ·
      refine wp_iinc dX2_leastCrossing_41 rfl rfl ?_
      refine wp_goto (tgt := 2) dX2_leastCrossing_44 rfl ?_
      exact ((h.2 c1).2.2.2.2.1 c2)
    ·
      refine wp_iload_n dX2_leastCrossing_39 rfl rfl ?_
      exact wp_ireturn dX2_leastCrossing_40 rfl ⟨rfl, rfl⟩ ⟨rfl, ((h.2 c1).2.2.2.2.2 c2)⟩
set_option maxHeartbeats 4000000 in
set_option maxRecDepth 10000 in
theorem sX8_pile {K : KK} {d : Nat} {V : Mem} {Q : Option AV → Mem → Prop} (a1 : Nat) (x2 : Int) (x3 : Int) (x4 : Int) (h1 : IsChains a1) (h : Wf K (d + 1) mX8_pile 6 [some (vR 180), some (vR a1), none, some (vI x3), some (vI x4), some (vI 0), some (vI x2), none, none] [] V Q) : Mf K (d + 1) mX8_pile [vR 180, vR a1, vI x2, vI x3, vI x4] V Q := by
  refine Mt.of2 (L := [some (vR 180), some (vR a1), some (vI x2), some (vI x3), some (vI x4), none, none, none, none]) pnX8 rfl rfl ?_
  refine wp_iconst dX8_pile_0 (by decide) ?_
  refine wp_istore dX8_pile_1 (by decide) rfl ?_
  refine wp_iload_n dX8_pile_3 rfl rfl ?_
  refine wp_istore dX8_pile_4 (by decide) rfl ?_
  exact wp_loc (L2 := [some (vR 180), some (vR a1), none, some (vI x3), some (vI x4), some (vI 0), some (vI x2), none, none]) ⟨rfl, ⟨rfl, ⟨rfl, ⟨rfl, ⟨rfl, ⟨rfl, trivial⟩⟩⟩⟩⟩⟩ h
set_option maxHeartbeats 4000000 in
set_option maxRecDepth 10000 in
theorem sX8_pile_6 {K : KK} {d : Nat} {V : Mem} {Q : Option AV → Mem → Prop} (a1 : Nat) (x3 : Int) (x4 : Int) (x5 : Int) (x6 : Int) (h1 : IsChains a1) (h : ((x3 ≤ x6 → Q (some (vI x5)) V) ∧ (¬ (x3 ≤ x6) → (((0 : Int) ≤ x6 ∧ x6 < (20 : Nat)) ∧ Wf K (d + 1) mX8_pile 24 [some (vR 180), some (vR a1), none, some (vI x3), some (vI x4), some (vI x5), some (vI x6), some (vI (V (a1 + 1) (Int.toNat x6))), some (vI 0)] [] V Q)))) : Wf K (d + 1) mX8_pile 6 [some (vR 180), some (vR a1), none, some (vI x3), some (vI x4), some (vI x5), some (vI x6), none, none] [] V Q := by
  refine wp_iload dX8_pile_6 rfl ?_
  refine wp_iload_n dX8_pile_8 rfl rfl ?_
  refine wp_icmp_ge (tgt := 99) dX8_pile_9 rfl (fun c1 => ?_) (fun c1 => ?_)
  ·
    refine wp_iload dX8_pile_99 rfl ?_
    exact wp_ireturn dX8_pile_101 rfl ⟨rfl, rfl⟩ ⟨rfl, (h.1 c1)⟩
  ·
    refine wp_aload_n dX8_pile_12 rfl rfl ?_
    refine wp_getR (b := (a1 + 1)) dX8_pile_13 fX8_23 rfl h1.1 (by decide) rfl ?_
    refine wp_iload dX8_pile_16 rfl ?_
    refine wp_iald dX8_pile_18 h1.2.1 (h.2 c1).1 ?_
    refine wp_istore dX8_pile_19 (by decide) rfl ?_
    refine wp_iconst dX8_pile_21 (by decide) ?_
    refine wp_istore dX8_pile_22 (by decide) rfl ?_
    exact (h.2 c1).2
set_option maxHeartbeats 4000000 in
set_option maxRecDepth 10000 in
theorem sX8_pile_24 {K : KK} {d : Nat} {V : Mem} {Q : Option AV → Mem → Prop} (a1 : Nat) (x3 : Int) (x4 : Int) (x5 : Int) (x6 : Int) (x7 : Int) (x8 : Int) (h1 : IsChains a1) (h : ((x5 ≤ x8 → ((¬ x6 = x4 → ((20 ≤ x8 → Wf K (d + 1) mX8_pile 6 [some (vR 180), some (vR a1), none, some (vI x3), some (vI x4), some (vI x5), some (vI (w32 (x6 + 1))), none, none] [] V Q) ∧ (¬ (20 ≤ x8) → (((0 : Int) ≤ x8 ∧ x8 < (20 : Nat)) ∧ Wf K (d + 1) mX8_pile 6 [some (vR 180), some (vR a1), none, some (vI x3), some (vI x4), some (vI (max x5 (w32 (x8 + 1)))), some (vI (w32 (x6 + 1))), none, none] [] (upm V 203 (Int.toNat x8) x7) Q)))) ∧ (x6 = x4 → Q (some (vI x8)) V))) ∧ (¬ (x5 ≤ x8) → (((0 : Int) ≤ x8 ∧ x8 < (20 : Nat)) ∧ Mf K d mX1_mayFollow [vR a1, vI x7, vI (V 203 (Int.toNat x8))] V (fun r V4 => ∃ z4, r = some (vI z4) ∧ ((z4 = 0 → ((¬ x6 = x4 → ((20 ≤ x8 → Wf K (d + 1) mX8_pile 6 [some (vR 180), some (vR a1), none, some (vI x3), some (vI x4), some (vI x5), some (vI (w32 (x6 + 1))), none, none] [] V4 Q) ∧ (¬ (20 ≤ x8) → (((0 : Int) ≤ x8 ∧ x8 < (20 : Nat)) ∧ Wf K (d + 1) mX8_pile 6 [some (vR 180), some (vR a1), none, some (vI x3), some (vI x4), some (vI (max x5 (w32 (x8 + 1)))), some (vI (w32 (x6 + 1))), none, none] [] (upm V4 203 (Int.toNat x8) x7) Q)))) ∧ (x6 = x4 → Q (some (vI x8)) V4))) ∧ (¬ (z4 = 0) → Wf K (d + 1) mX8_pile 24 [some (vR 180), some (vR a1), none, some (vI x3), some (vI x4), some (vI x5), some (vI x6), some (vI x7), some (vI (w32 (x8 + 1)))] [] V4 Q))))))) : Wf K (d + 1) mX8_pile 24 [some (vR 180), some (vR a1), none, some (vI x3), some (vI x4), some (vI x5), some (vI x6), some (vI x7), some (vI x8)] [] V Q := by
  refine wp_iload dX8_pile_24 rfl ?_
  refine wp_iload dX8_pile_26 rfl ?_
  refine wp_icmp_ge (tgt := 53) dX8_pile_28 rfl (fun c1 => ?_) (fun c1 => ?_)
  ·
    refine wp_iload dX8_pile_53 rfl ?_
    refine wp_iload dX8_pile_55 rfl ?_
    refine wp_icmp_ne (tgt := 63) dX8_pile_57 rfl (fun c2 => ?_) (fun c2 => ?_)
    ·
      refine wp_iload dX8_pile_63 rfl ?_
      refine wp_aload_n dX8_pile_65 rfl rfl ?_
      refine wp_getR (b := 203) dX8_pile_66 fX8_20 rfl sh180 (by decide) rfl ?_
      refine wp_alen dX8_pile_69 sh203 (by decide) (by decide) ?_
      refine wp_icmp_ge (tgt := 93) dX8_pile_70 rfl (fun c3 => ?_) (fun c3 => ?_)
      ·
        refine wp_iinc dX8_pile_93 rfl rfl ?_
        refine wp_goto (tgt := 6) dX8_pile_96 rfl ?_
        exact wp_loc (L2 := [some (vR 180), some (vR a1), none, some (vI x3), some (vI x4), some (vI x5), some (vI (w32 (x6 + 1))), none, none]) ⟨rfl, ⟨rfl, ⟨rfl, ⟨rfl, ⟨rfl, ⟨rfl, trivial⟩⟩⟩⟩⟩⟩ (((h.1 c1).1 c2).1 c3)
      ·
        refine wp_aload_n dX8_pile_73 rfl rfl ?_
        refine wp_getR (b := 203) dX8_pile_74 fX8_20 rfl sh180 (by decide) rfl ?_
        refine wp_iload dX8_pile_77 rfl ?_
        refine wp_iload dX8_pile_79 rfl ?_
        refine wp_iast dX8_pile_81 sh203 (((h.1 c1).1 c2).2 c3).1 ?_
        refine wp_iload dX8_pile_82 rfl ?_
        refine wp_iload dX8_pile_84 rfl ?_
        refine wp_iconst dX8_pile_86 (by decide) ?_
        refine wp_iadd dX8_pile_87 ?_
        refine wp_mmax dX8_pile_88 lX8_32 (by omega) (Nat.le_of_ble_eq_true rfl) ⟨Nat.le_refl _, Nat.le_refl _⟩ ?_
        refine wp_istore dX8_pile_91 (by decide) rfl ?_
        refine wp_iinc dX8_pile_93 rfl rfl ?_
        refine wp_goto (tgt := 6) dX8_pile_96 rfl ?_
        exact wp_loc (L2 := [some (vR 180), some (vR a1), none, some (vI x3), some (vI x4), some (vI (max x5 (w32 (x8 + 1)))), some (vI (w32 (x6 + 1))), none, none]) ⟨rfl, ⟨rfl, ⟨rfl, ⟨rfl, ⟨rfl, ⟨rfl, trivial⟩⟩⟩⟩⟩⟩ (((h.1 c1).1 c2).2 c3).2
    ·
      refine wp_iload dX8_pile_60 rfl ?_
      exact wp_ireturn dX8_pile_62 rfl ⟨rfl, rfl⟩ ⟨rfl, ((h.1 c1).2 c2)⟩
  ·
    refine wp_aload_n dX8_pile_31 rfl rfl ?_
    refine wp_iload dX8_pile_32 rfl ?_
    refine wp_aload_n dX8_pile_34 rfl rfl ?_
    refine wp_getR (b := 203) dX8_pile_35 fX8_20 rfl sh180 (by decide) rfl ?_
    refine wp_iload dX8_pile_38 rfl ?_
    refine wp_iald dX8_pile_40 sh203 (h.2 c1).1 ?_
    refine wp_callV (S := []) (as := [vI x7, vI (V 203 (Int.toNat x8))]) dX8_pile_41 lX8_28 ((h.2 c1).2) (by omega) h1.1 rfl rfl (Nat.le_of_ble_eq_true rfl) ⟨Nat.le_refl _, Nat.le_refl _⟩ ?_
    rintro _ _ V4 ⟨rfl, z4, rfl, q4⟩
    show Wp _ _ _ _ _ 44 _ [vI z4] _ _ _ _ _
    refine wp_if_eq (tgt := 53) dX8_pile_44 rfl (fun c5 => ?_) (fun c5 => ?_)
    ·
      refine wp_iload dX8_pile_53 rfl ?_
      refine wp_iload dX8_pile_55 rfl ?_
      refine wp_icmp_ne (tgt := 63) dX8_pile_57 rfl (fun c6 => ?_) (fun c6 => ?_)
      ·
        refine wp_iload dX8_pile_63 rfl ?_
        refine wp_aload_n dX8_pile_65 rfl rfl ?_
        refine wp_getR (b := 203) dX8_pile_66 fX8_20 rfl sh180 (by decide) rfl ?_
        refine wp_alen dX8_pile_69 sh203 (by decide) (by decide) ?_
        refine wp_icmp_ge (tgt := 93) dX8_pile_70 rfl (fun c7 => ?_) (fun c7 => ?_)
        ·
          refine wp_iinc dX8_pile_93 rfl rfl ?_
          refine wp_goto (tgt := 6) dX8_pile_96 rfl ?_
          exact wp_loc (L2 := [some (vR 180), some (vR a1), none, some (vI x3), some (vI x4), some (vI x5), some (vI (w32 (x6 + 1))), none, none]) ⟨rfl, ⟨rfl, ⟨rfl, ⟨rfl, ⟨rfl, ⟨rfl, trivial⟩⟩⟩⟩⟩⟩ (((q4.1 c5).1 c6).1 c7)
        ·
          refine wp_aload_n dX8_pile_73 rfl rfl ?_
          refine wp_getR (b := 203) dX8_pile_74 fX8_20 rfl sh180 (by decide) rfl ?_
          refine wp_iload dX8_pile_77 rfl ?_
          refine wp_iload dX8_pile_79 rfl ?_
          refine wp_iast dX8_pile_81 sh203 (((q4.1 c5).1 c6).2 c7).1 ?_
          refine wp_iload dX8_pile_82 rfl ?_
          refine wp_iload dX8_pile_84 rfl ?_
          refine wp_iconst dX8_pile_86 (by decide) ?_
          refine wp_iadd dX8_pile_87 ?_
          refine wp_mmax dX8_pile_88 lX8_32 (by omega) (Nat.le_of_ble_eq_true rfl) ⟨Nat.le_refl _, Nat.le_refl _⟩ ?_
          refine wp_istore dX8_pile_91 (by decide) rfl ?_
          refine wp_iinc dX8_pile_93 rfl rfl ?_
          refine wp_goto (tgt := 6) dX8_pile_96 rfl ?_
          exact wp_loc (L2 := [some (vR 180), some (vR a1), none, some (vI x3), some (vI x4), some (vI (max x5 (w32 (x8 + 1)))), some (vI (w32 (x6 + 1))), none, none]) ⟨rfl, ⟨rfl, ⟨rfl, ⟨rfl, ⟨rfl, ⟨rfl, trivial⟩⟩⟩⟩⟩⟩ (((q4.1 c5).1 c6).2 c7).2
      ·
        refine wp_iload dX8_pile_60 rfl ?_
        exact wp_ireturn dX8_pile_62 rfl ⟨rfl, rfl⟩ ⟨rfl, ((q4.1 c5).2 c6)⟩
    ·
      refine wp_iinc dX8_pile_47 rfl rfl ?_
      refine wp_goto (tgt := 24) dX8_pile_50 rfl ?_
      exact (q4.2 c5)
set_option maxHeartbeats 4000000 in
set_option maxRecDepth 10000 in
theorem sX8_fill {K : KK} {d : Nat} {V : Mem} {Q : Option AV → Mem → Prop} (a1 : Nat) (x2 : Int) (x3 : Int) (h1 : IsChains a1) (h : Wf K (d + 1) mX8_fill 3 [some (vR 180), some (vR a1), some (vI x2), some (vI x3), some (vI 0)] [] V Q) : Mf K (d + 1) mX8_fill [vR 180, vR a1, vI x2, vI x3] V Q := by
  refine Mt.of2 (L := [some (vR 180), some (vR a1), some (vI x2), some (vI x3), none]) pnX8 rfl rfl ?_
  refine wp_iconst dX8_fill_0 (by decide) ?_
  refine wp_istore dX8_fill_1 (by decide) rfl ?_
  exact h
set_option maxHeartbeats 4000000 in
set_option maxRecDepth 10000 in
theorem sX8_fill_3 {K : KK} {d : Nat} {V : Mem} {Q : Option AV → Mem → Prop} (a1 : Nat) (x2 : Int) (x3 : Int) (x4 : Int) (h1 : IsChains a1) (h : ((20 ≤ x4 → Wf K (d + 1) mX8_fill 30 [some (vR 180), some (vR a1), none, some (vI x3), some (vI x2)] [] V Q) ∧ (¬ (20 ≤ x4) → (((0 : Int) ≤ x4 ∧ x4 < (20 : Nat)) ∧ Wf K (d + 1) mX8_fill 3 [some (vR 180), some (vR a1), some (vI x2), some (vI x3), some (vI (w32 (x4 + 1)))] [] (upm V 202 (Int.toNat x4) 0) Q)))) : Wf K (d + 1) mX8_fill 3 [some (vR 180), some (vR a1), some (vI x2), some (vI x3), some (vI x4)] [] V Q := by
  refine wp_iload dX8_fill_3 rfl ?_
  refine wp_aload_n dX8_fill_5 rfl rfl ?_
  refine wp_getR (b := 202) dX8_fill_6 fX8_16 rfl sh180 (by decide) rfl ?_
  refine wp_alen dX8_fill_9 sh202 (by decide) (by decide) ?_
  refine wp_icmp_ge (tgt := 27) dX8_fill_10 rfl (fun c1 => ?_) (fun c1 => ?_)
  ·
    refine wp_iload_n dX8_fill_27 rfl rfl ?_
    refine wp_istore dX8_fill_28 (by decide) rfl ?_
    exact wp_loc (L2 := [some (vR 180), some (vR a1), none, some (vI x3), some (vI x2)]) ⟨rfl, ⟨rfl, ⟨rfl, ⟨rfl, trivial⟩⟩⟩⟩ (h.1 c1)
  ·
    refine wp_aload_n dX8_fill_13 rfl rfl ?_
    refine wp_getR (b := 202) dX8_fill_14 fX8_16 rfl sh180 (by decide) rfl ?_
    refine wp_iload dX8_fill_17 rfl ?_
    refine wp_iconst dX8_fill_19 (by decide) ?_
    refine wp_iast dX8_fill_20 sh202 (h.2 c1).1 ?_
    refine wp_iinc dX8_fill_21 rfl rfl ?_
    refine wp_goto (tgt := 3) dX8_fill_24 rfl ?_
    exact (h.2 c1).2
set_option maxHeartbeats 4000000 in
set_option maxRecDepth 10000 in
theorem sX8_fill_30 {K : KK} {d : Nat} {V : Mem} {Q : Option AV → Mem → Prop} (a1 : Nat) (x3 : Int) (x4 : Int) (h1 : IsChains a1) (h : ((x3 ≤ x4 → Q none V) ∧ (¬ (x3 ≤ x4) → (((0 : Int) ≤ x4 ∧ x4 < (20 : Nat)) ∧ Mf K d mX8_insert [vR 180, vR a1, vI (V (a1 + 1) (Int.toNat x4))] V (fun r V2 => r = none ∧ Wf K (d + 1) mX8_fill 30 [some (vR 180), some (vR a1), none, some (vI x3), some (vI (w32 (x4 + 1)))] [] V2 Q))))) : Wf K (d + 1) mX8_fill 30 [some (vR 180), some (vR a1), none, some (vI x3), some (vI x4)] [] V Q := by
  refine wp_iload dX8_fill_30 rfl ?_
  refine wp_iload_n dX8_fill_32 rfl rfl ?_
  refine wp_icmp_ge (tgt := 54) dX8_fill_33 rfl (fun c1 => ?_) (fun c1 => ?_)
  ·
    exact wp_return dX8_fill_54 rfl ⟨rfl, rfl⟩ ⟨rfl, (h.1 c1)⟩
  ·
    refine wp_aload_n dX8_fill_36 rfl rfl ?_
    refine wp_aload_n dX8_fill_37 rfl rfl ?_
    refine wp_aload_n dX8_fill_38 rfl rfl ?_
    refine wp_getR (b := (a1 + 1)) dX8_fill_39 fX8_23 rfl h1.1 (by decide) rfl ?_
    refine wp_iload dX8_fill_42 rfl ?_
    refine wp_iald dX8_fill_44 h1.2.1 (h.2 c1).1 ?_
    refine wp_callV (S := []) (as := [vR a1, vI (V (a1 + 1) (Int.toNat x4))]) dX8_fill_45 lX8_38 ((h.2 c1).2) (by omega) sh180 rfl rfl (Nat.le_of_ble_eq_true rfl) ⟨Nat.le_refl _, Nat.le_refl _⟩ ?_
    rintro _ _ V2 ⟨rfl, rfl, q2⟩
    show Wp _ _ _ _ _ 48 _ [] _ _ _ _ _
    refine wp_iinc dX8_fill_48 rfl rfl ?_
    refine wp_goto (tgt := 30) dX8_fill_51 rfl ?_
    exact q2
set_option maxHeartbeats 4000000 in
set_option maxRecDepth 10000 in
theorem sX8_sizeOf {K : KK} {d : Nat} {V : Mem} {Q : Option AV → Mem → Prop} (x1 : Int) (h : ((x1 < 0 → Q (some (vI 0)) V) ∧ (¬ (x1 < 0) → ((20 ≤ x1 → Q (some (vI 0)) V) ∧ (¬ (20 ≤ x1) → (((0 : Int) ≤ x1 ∧ x1 < (20 : Nat)) ∧ Q (some (vI (V 202 (Int.toNat x1)))) V)))))) : Mf K d mX8_sizeOf [vR 180, vI x1] V Q := by
  refine Mt.of2 (L := [some (vR 180), some (vI x1)]) pnX8 rfl rfl ?_
  refine wp_iload_n dX8_sizeOf_0 rfl rfl ?_
  refine wp_if_lt (tgt := 22) dX8_sizeOf_1 rfl (fun c1 => ?_) (fun c1 => ?_)
  ·
    refine wp_iconst dX8_sizeOf_22 (by decide) ?_
    exact wp_ireturn dX8_sizeOf_23 rfl ⟨rfl, rfl⟩ ⟨rfl, (h.1 c1)⟩
  ·
    refine wp_iload_n dX8_sizeOf_4 rfl rfl ?_
    refine wp_aload_n dX8_sizeOf_5 rfl rfl ?_
    refine wp_getR (b := 202) dX8_sizeOf_6 fX8_16 rfl sh180 (by decide) rfl ?_
    refine wp_alen dX8_sizeOf_9 sh202 (by decide) (by decide) ?_
    refine wp_icmp_ge (tgt := 22) dX8_sizeOf_10 rfl (fun c2 => ?_) (fun c2 => ?_)
    ·
      refine wp_iconst dX8_sizeOf_22 (by decide) ?_
      exact wp_ireturn dX8_sizeOf_23 rfl ⟨rfl, rfl⟩ ⟨rfl, ((h.2 c1).1 c2)⟩
    ·
      refine wp_aload_n dX8_sizeOf_13 rfl rfl ?_
      refine wp_getR (b := 202) dX8_sizeOf_14 fX8_16 rfl sh180 (by decide) rfl ?_
      refine wp_iload_n dX8_sizeOf_17 rfl rfl ?_
      refine wp_iald dX8_sizeOf_18 sh202 ((h.2 c1).2 c2).1 ?_
      refine wp_goto (tgt := 23) dX8_sizeOf_19 rfl ?_
      exact wp_ireturn dX8_sizeOf_23 rfl ⟨rfl, rfl⟩ ⟨rfl, ((h.2 c1).2 c2).2⟩
set_option maxHeartbeats 4000000 in
set_option maxRecDepth 10000 in
theorem sX8_insert {K : KK} {d : Nat} {V : Mem} {Q : Option AV → Mem → Prop} (a1 : Nat) (x2 : Int) (h1 : IsChains a1) (h : Wf K (d + 1) mX8_insert 5 [some (vR 180), some (vR a1), none, some (vI x2), some (vI 0), none, none] [] V Q) : Mf K (d + 1) mX8_insert [vR 180, vR a1, vI x2] V Q := by
  refine Mt.of2 (L := [some (vR 180), some (vR a1), some (vI x2), none, none, none, none]) pnX8 rfl rfl ?_
  refine wp_iload_n dX8_insert_0 rfl rfl ?_
  refine wp_istore_n dX8_insert_1 rfl (by decide) rfl ?_
  refine wp_iconst dX8_insert_2 (by decide) ?_
  refine wp_istore dX8_insert_3 (by decide) rfl ?_
  exact wp_loc (L2 := [some (vR 180), some (vR a1), none, some (vI x2), some (vI 0), none, none]) ⟨rfl, ⟨rfl, ⟨rfl, ⟨rfl, trivial⟩⟩⟩⟩ h
set_option maxHeartbeats 4000000 in
set_option maxRecDepth 10000 in
theorem sX8_insert_5 {K : KK} {d : Nat} {V : Mem} {Q : Option AV → Mem → Prop} (a1 : Nat) (x3 : Int) (x4 : Int) (h1 : IsChains a1) (h : ((20 ≤ x4 → Q none V) ∧ (¬ (20 ≤ x4) → Wf K (d + 1) mX8_insert 18 [some (vR 180), some (vR a1), none, some (vI x3), some (vI x4), some (vI 0), none] [] V Q))) : Wf K (d + 1) mX8_insert 5 [some (vR 180), some (vR a1), none, some (vI x3), some (vI x4), none, none] [] V Q := by
  refine wp_iload dX8_insert_5 rfl ?_
  refine wp_aload_n dX8_insert_7 rfl rfl ?_
  refine wp_getR (b := 202) dX8_insert_8 fX8_16 rfl sh180 (by decide) rfl ?_
  refine wp_alen dX8_insert_11 sh202 (by decide) (by decide) ?_
  refine wp_icmp_ge (tgt := 124) dX8_insert_12 rfl (fun c1 => ?_) (fun c1 => ?_)
  ·
    exact wp_return dX8_insert_124 rfl ⟨rfl, rfl⟩ ⟨rfl, (h.1 c1)⟩
  ·
    refine wp_iconst dX8_insert_15 (by decide) ?_
    refine wp_istore dX8_insert_16 (by decide) rfl ?_
    exact (h.2 c1)
set_option maxHeartbeats 4000000 in
set_option maxRecDepth 10000 in
theorem sX8_insert_18 {K : KK} {d : Nat} {V : Mem} {Q : Option AV → Mem → Prop} (a1 : Nat) (x3 : Int) (x4 : Int) (x5 : Int) (h1 : IsChains a1) (h : (((0 : Int) ≤ x4 ∧ x4 < (20 : Nat)) ∧ (((V 202 (Int.toNat x4)) ≤ x5 → Wf K (d + 1) mX8_insert 54 [some (vR 180), some (vR a1), none, some (vI x3), some (vI x4), some (vI x5), none] [] V Q) ∧ (¬ ((V 202 (Int.toNat x4)) ≤ x5) → (((0 : Int) ≤ x4 ∧ x4 < (20 : Nat)) ∧ (((0 : Int) ≤ x5 ∧ x5 < (20 : Nat)) ∧ Mf K d mX1_mayFollow [vR a1, vI x3, vI (V (182 + 1 * Int.toNat x4) (Int.toNat x5))] V (fun r V3 => ∃ z3, r = some (vI z3) ∧ ((z3 = 0 → Wf K (d + 1) mX8_insert 54 [some (vR 180), some (vR a1), none, some (vI x3), some (vI x4), some (vI x5), none] [] V3 Q) ∧ (¬ (z3 = 0) → Wf K (d + 1) mX8_insert 18 [some (vR 180), some (vR a1), none, some (vI x3), some (vI x4), some (vI (w32 (x5 + 1))), none] [] V3 Q))))))))) : Wf K (d + 1) mX8_insert 18 [some (vR 180), some (vR a1), none, some (vI x3), some (vI x4), some (vI x5), none] [] V Q := by
  refine wp_iload dX8_insert_18 rfl ?_
  refine wp_aload_n dX8_insert_20 rfl rfl ?_
  refine wp_getR (b := 202) dX8_insert_21 fX8_16 rfl sh180 (by decide) rfl ?_
  refine wp_iload dX8_insert_24 rfl ?_
  refine wp_iald dX8_insert_26 sh202 h.1 ?_
  refine wp_icmp_ge (tgt := 54) dX8_insert_27 rfl (fun c1 => ?_) (fun c1 => ?_)
  ·
    exact (h.2.1 c1)
  ·
    refine wp_aload_n dX8_insert_30 rfl rfl ?_
    refine wp_iload_n dX8_insert_31 rfl rfl ?_
    refine wp_aload_n dX8_insert_32 rfl rfl ?_
    refine wp_getR (b := 181) dX8_insert_33 fX8_11 rfl sh180 (by decide) rfl ?_
    refine wp_iload dX8_insert_36 rfl ?_
    have g2 : (0 : Int) ≤ x4 ∧ x4 < (20 : Nat) := (h.2.2 c1).1
    refine wp_aald (b := (182 + 1 * Int.toNat x4)) dX8_insert_38 sh181 (by decide) g2 (ap_get (b := 182) (s := 1) (n := 20) g2) ?_
    refine wp_iload dX8_insert_39 rfl ?_
    refine wp_iald dX8_insert_41 (arr181 g2) (h.2.2 c1).2.1 ?_
    refine wp_callV (S := []) (as := [vI x3, vI (V (182 + 1 * Int.toNat x4) (Int.toNat x5))]) dX8_insert_42 lX8_28 ((h.2.2 c1).2.2) (by omega) h1.1 rfl rfl (Nat.le_of_ble_eq_true rfl) ⟨Nat.le_refl _, Nat.le_refl _⟩ ?_
    rintro _ _ V3 ⟨rfl, z3, rfl, q3⟩
    show Wp _ _ _ _ _ 45 _ [vI z3] _ _ _ _ _
    refine wp_if_eq (tgt := 54) dX8_insert_45 rfl (fun c4 => ?_) (fun c4 => ?_)
    ·
      exact (q3.1 c4)
    ·
      refine wp_iinc dX8_insert_48 rfl rfl ?_
      refine wp_goto (tgt := 18) dX8_insert_51 rfl ?_
      exact (q3.2 c4)
set_option maxHeartbeats 4000000 in
set_option maxRecDepth 10000 in
theorem sX8_insert_54 {K : KK} {d : Nat} {V : Mem} {Q : Option AV → Mem → Prop} (a1 : Nat) (x3 : Int) (x4 : Int) (x5 : Int) (h1 : IsChains a1) (h : (((0 : Int) ≤ x4 ∧ x4 < (20 : Nat)) ∧ ((x5 < 20 → (((0 : Int) ≤ x4 ∧ x4 < (20 : Nat)) ∧ (((0 : Int) ≤ x5 ∧ x5 < (20 : Nat)) ∧ (((0 : Int) ≤ x4 ∧ x4 < (20 : Nat)) ∧ (((0 : Int) ≤ x5 ∧ x5 < (20 : Nat)) ∧ (((0 : Int) ≤ x4 ∧ x4 < (20 : Nat)) ∧ ((¬ x5 = ((upm V (182 + 1 * Int.toNat x4) (Int.toNat x5) x3) 202 (Int.toNat x4)) → Wf K (d + 1) mX8_insert 5 [some (vR 180), some (vR a1), none, some (vI (V (182 + 1 * Int.toNat x4) (Int.toNat x5))), some (vI (w32 (x4 + 1))), none, none] [] (upm V (182 + 1 * Int.toNat x4) (Int.toNat x5) x3) Q) ∧ (x5 = ((upm V (182 + 1 * Int.toNat x4) (Int.toNat x5) x3) 202 (Int.toNat x4)) → (((0 : Int) ≤ x4 ∧ x4 < (20 : Nat)) ∧ (((0 : Int) ≤ x4 ∧ x4 < (20 : Nat)) ∧ Q none (upm (upm V (182 + 1 * Int.toNat x4) (Int.toNat x5) x3) 202 (Int.toNat x4) (w32 (((upm V (182 + 1 * Int.toNat x4) (Int.toNat x5) x3) 202 (Int.toNat x4)) + 1))))))))))))) ∧ (¬ (x5 < 20) → Q none V)))) : Wf K (d + 1) mX8_insert 54 [some (vR 180), some (vR a1), none, some (vI x3), some (vI x4), some (vI x5), none] [] V Q := by
  refine wp_iload dX8_insert_54 rfl ?_
  refine wp_aload_n dX8_insert_56 rfl rfl ?_
  refine wp_getR (b := 181) dX8_insert_57 fX8_11 rfl sh180 (by decide) rfl ?_
  refine wp_iload dX8_insert_60 rfl ?_
  have g1 : (0 : Int) ≤ x4 ∧ x4 < (20 : Nat) := h.1
  refine wp_aald (b := (182 + 1 * Int.toNat x4)) dX8_insert_62 sh181 (by decide) g1 (ap_get (b := 182) (s := 1) (n := 20) g1) ?_
  refine wp_alen dX8_insert_63 (arr181 g1) (by decide) (by decide) ?_
  refine wp_icmp_lt (tgt := 68) dX8_insert_64 rfl (fun c2 => ?_) (fun c2 => ?_)
  ·
    refine wp_aload_n dX8_insert_68 rfl rfl ?_
    refine wp_getR (b := 181) dX8_insert_69 fX8_11 rfl sh180 (by decide) rfl ?_
    refine wp_iload dX8_insert_72 rfl ?_
    have g3 : (0 : Int) ≤ x4 ∧ x4 < (20 : Nat) := (h.2.1 c2).1
    refine wp_aald (b := (182 + 1 * Int.toNat x4)) dX8_insert_74 sh181 (by decide) g3 (ap_get (b := 182) (s := 1) (n := 20) g3) ?_
    refine wp_iload dX8_insert_75 rfl ?_
    refine wp_iald dX8_insert_77 (arr181 g3) (h.2.1 c2).2.1 ?_
    refine wp_istore dX8_insert_78 (by decide) rfl ?_
    refine wp_aload_n dX8_insert_80 rfl rfl ?_
    refine wp_getR (b := 181) dX8_insert_81 fX8_11 rfl sh180 (by decide) rfl ?_
    refine wp_iload dX8_insert_84 rfl ?_
    have g4 : (0 : Int) ≤ x4 ∧ x4 < (20 : Nat) := (h.2.1 c2).2.2.1
    refine wp_aald (b := (182 + 1 * Int.toNat x4)) dX8_insert_86 sh181 (by decide) g4 (ap_get (b := 182) (s := 1) (n := 20) g4) ?_
    refine wp_iload dX8_insert_87 rfl ?_
    refine wp_iload_n dX8_insert_89 rfl rfl ?_
    refine wp_iast dX8_insert_90 (arr181 g4) (h.2.1 c2).2.2.2.1 ?_
    refine wp_iload dX8_insert_91 rfl ?_
    refine wp_aload_n dX8_insert_93 rfl rfl ?_
    refine wp_getR (b := 202) dX8_insert_94 fX8_16 rfl sh180 (by decide) rfl ?_
    refine wp_iload dX8_insert_97 rfl ?_
    refine wp_iald dX8_insert_99 sh202 (h.2.1 c2).2.2.2.2.1 ?_
    refine wp_icmp_ne (tgt := 115) dX8_insert_100 rfl (fun c5 => ?_) (fun c5 => ?_)
    ·
      refine wp_iload dX8_insert_115 rfl ?_
      refine wp_istore_n dX8_insert_117 rfl (by decide) rfl ?_
      refine wp_iinc dX8_insert_118 rfl rfl ?_
      refine wp_goto (tgt := 5) dX8_insert_121 rfl ?_
      exact wp_loc (L2 := [some (vR 180), some (vR a1), none, some (vI (V (182 + 1 * Int.toNat x4) (Int.toNat x5))), some (vI (w32 (x4 + 1))), none, none]) ⟨rfl, ⟨rfl, ⟨rfl, ⟨rfl, trivial⟩⟩⟩⟩ ((h.2.1 c2).2.2.2.2.2.1 c5)
    ·
      refine wp_aload_n dX8_insert_103 rfl rfl ?_
      refine wp_getR (b := 202) dX8_insert_104 fX8_16 rfl sh180 (by decide) rfl ?_
      refine wp_iload dX8_insert_107 rfl ?_
      refine wp_dup2 dX8_insert_109 rfl rfl ?_
      refine wp_iald dX8_insert_110 sh202 ((h.2.1 c2).2.2.2.2.2.2 c5).1 ?_
      refine wp_iconst dX8_insert_111 (by decide) ?_
      refine wp_iadd dX8_insert_112 ?_
      refine wp_iast dX8_insert_113 sh202 ((h.2.1 c2).2.2.2.2.2.2 c5).2.1 ?_
      exact wp_return dX8_insert_114 rfl ⟨rfl, rfl⟩ ⟨rfl, ((h.2.1 c2).2.2.2.2.2.2 c5).2.2⟩
  ·
    exact wp_return dX8_insert_67 rfl ⟨rfl, rfl⟩ ⟨rfl, (h.2.2 c2)⟩
set_option maxHeartbeats 4000000 in
set_option maxRecDepth 10000 in
theorem sX10_fillChains {K : KK} {d : Nat} {V : Mem} {Q : Option AV → Mem → Prop} (a1 : Nat) (h1 : IsChains a1) (h : Wf K (d + 1) mX10_fillChains 10 [some (vR 156), some (vR a1), some (vI 0)] [] (upm V 156 2 (V a1 4)) Q) : Mf K (d + 1) mX10_fillChains [vR 156, vR a1] V Q := by
  refine Mt.of2 (L := [some (vR 156), some (vR a1), none]) pnX10 rfl rfl ?_
  refine wp_aload_n dX10_fillChains_0 rfl rfl ?_
  refine wp_aload_n dX10_fillChains_1 rfl rfl ?_
  refine wp_getI dX10_fillChains_2 fX10_20 rfl h1.1 (by decide) ?_
  refine wp_putI dX10_fillChains_5 fwX10_26 rfl sh156 (by decide) ?_
  refine wp_iconst dX10_fillChains_8 (by decide) ?_
  refine wp_istore_n dX10_fillChains_9 rfl (by decide) rfl ?_
  exact h
set_option maxHeartbeats 4000000 in
set_option maxRecDepth 10000 in
theorem sX10_fillChains_10 {K : KK} {d : Nat} {V : Mem} {Q : Option AV → Mem → Prop} (a1 : Nat) (x2 : Int) (h1 : IsChains a1) (h : (((V 156 2) < x2 → Q none V) ∧ (¬ ((V 156 2) < x2) → ((21 ≤ x2 → Q none V) ∧ (¬ (21 ≤ x2) → (((0 : Int) ≤ x2 ∧ x2 < (21 : Nat)) ∧ Mf K d mX1_measureFrom [vR a1, vI x2, vR (158 + 1 * Int.toNat x2)] V (fun r V4 => r = none ∧ Wf K (d + 1) mX10_fillChains 10 [some (vR 156), some (vR a1), some (vI (w32 (x2 + 1)))] [] V4 Q))))))) : Wf K (d + 1) mX10_fillChains 10 [some (vR 156), some (vR a1), some (vI x2)] [] V Q := by
  refine wp_iload_n dX10_fillChains_10 rfl rfl ?_
  refine wp_aload_n dX10_fillChains_11 rfl rfl ?_
  refine wp_getI dX10_fillChains_12 fX10_26 rfl sh156 (by decide) ?_
  refine wp_icmp_gt (tgt := 44) dX10_fillChains_15 rfl (fun c1 => ?_) (fun c1 => ?_)
  ·
    exact wp_return dX10_fillChains_44 rfl ⟨rfl, rfl⟩ ⟨rfl, (h.1 c1)⟩
  ·
    refine wp_iload_n dX10_fillChains_18 rfl rfl ?_
    refine wp_aload_n dX10_fillChains_19 rfl rfl ?_
    refine wp_getR (b := 157) dX10_fillChains_20 fX10_11 rfl sh156 (by decide) rfl ?_
    refine wp_alen dX10_fillChains_23 sh157 (by decide) (by decide) ?_
    refine wp_icmp_ge (tgt := 44) dX10_fillChains_24 rfl (fun c2 => ?_) (fun c2 => ?_)
    ·
      exact wp_return dX10_fillChains_44 rfl ⟨rfl, rfl⟩ ⟨rfl, ((h.2 c1).1 c2)⟩
    ·
      refine wp_aload_n dX10_fillChains_27 rfl rfl ?_
      refine wp_iload_n dX10_fillChains_28 rfl rfl ?_
      refine wp_aload_n dX10_fillChains_29 rfl rfl ?_
      refine wp_getR (b := 157) dX10_fillChains_30 fX10_11 rfl sh156 (by decide) rfl ?_
      refine wp_iload_n dX10_fillChains_33 rfl rfl ?_
      have g3 : (0 : Int) ≤ x2 ∧ x2 < (21 : Nat) := ((h.2 c1).2 c2).1
      refine wp_aald (b := (158 + 1 * Int.toNat x2)) dX10_fillChains_34 sh157 (by decide) g3 (ap_get (b := 158) (s := 1) (n := 21) g3) ?_
      refine wp_callV (S := []) (as := [vI x2, vR (158 + 1 * Int.toNat x2)]) dX10_fillChains_35 lX10_27 (((h.2 c1).2 c2).2) (by omega) h1.1 rfl rfl (Nat.le_of_ble_eq_true rfl) ⟨Nat.le_refl _, Nat.le_refl _⟩ ?_
      rintro _ _ V4 ⟨rfl, rfl, q4⟩
      show Wp _ _ _ _ _ 38 _ [] _ _ _ _ _
      refine wp_iinc dX10_fillChains_38 rfl rfl ?_
      refine wp_goto (tgt := 10) dX10_fillChains_41 rfl ?_
      exact q4
set_option maxHeartbeats 4000000 in
set_option maxRecDepth 10000 in
theorem sX10_fillCommon {K : KK} {d : Nat} {V : Mem} {Q : Option AV → Mem → Prop} (a1 : Nat) (a2 : Nat) (h1 : IsChains a1) (h2 : IsChains a2) (h : Wf K (d + 1) mX10_fillCommon 10 [some (vR 156), some (vR a1), some (vR a2), some (vI 0)] [] (upm V 156 2 (V a2 4)) Q) : Mf K (d + 1) mX10_fillCommon [vR 156, vR a1, vR a2] V Q := by
  refine Mt.of2 (L := [some (vR 156), some (vR a1), some (vR a2), none]) pnX10 rfl rfl ?_
  refine wp_aload_n dX10_fillCommon_0 rfl rfl ?_
  refine wp_aload_n dX10_fillCommon_1 rfl rfl ?_
  refine wp_getI dX10_fillCommon_2 fX10_20 rfl h2.1 (by decide) ?_
  refine wp_putI dX10_fillCommon_5 fwX10_26 rfl sh156 (by decide) ?_
  refine wp_iconst dX10_fillCommon_8 (by decide) ?_
  refine wp_istore_n dX10_fillCommon_9 rfl (by decide) rfl ?_
  exact h
set_option maxHeartbeats 4000000 in
set_option maxRecDepth 10000 in
theorem sX10_fillCommon_10 {K : KK} {d : Nat} {V : Mem} {Q : Option AV → Mem → Prop} (a1 : Nat) (a2 : Nat) (x3 : Int) (h1 : IsChains a1) (h2 : IsChains a2) (h : (((V 156 2) < x3 → Q none V) ∧ (¬ ((V 156 2) < x3) → ((21 ≤ x3 → Q none V) ∧ (¬ (21 ≤ x3) → Mf K d mX10_fillCommonFrom [vR 156, vR a1, vR a2, vI x3] V (fun r V3 => r = none ∧ Wf K (d + 1) mX10_fillCommon 10 [some (vR 156), some (vR a1), some (vR a2), some (vI (w32 (x3 + 1)))] [] V3 Q)))))) : Wf K (d + 1) mX10_fillCommon 10 [some (vR 156), some (vR a1), some (vR a2), some (vI x3)] [] V Q := by
  refine wp_iload_n dX10_fillCommon_10 rfl rfl ?_
  refine wp_aload_n dX10_fillCommon_11 rfl rfl ?_
  refine wp_getI dX10_fillCommon_12 fX10_26 rfl sh156 (by decide) ?_
  refine wp_icmp_gt (tgt := 40) dX10_fillCommon_15 rfl (fun c1 => ?_) (fun c1 => ?_)
  ·
    exact wp_return dX10_fillCommon_40 rfl ⟨rfl, rfl⟩ ⟨rfl, (h.1 c1)⟩
  ·
    refine wp_iload_n dX10_fillCommon_18 rfl rfl ?_
    refine wp_aload_n dX10_fillCommon_19 rfl rfl ?_
    refine wp_getR (b := 157) dX10_fillCommon_20 fX10_11 rfl sh156 (by decide) rfl ?_
    refine wp_alen dX10_fillCommon_23 sh157 (by decide) (by decide) ?_
    refine wp_icmp_ge (tgt := 40) dX10_fillCommon_24 rfl (fun c2 => ?_) (fun c2 => ?_)
    ·
      exact wp_return dX10_fillCommon_40 rfl ⟨rfl, rfl⟩ ⟨rfl, ((h.2 c1).1 c2)⟩
    ·
      refine wp_aload_n dX10_fillCommon_27 rfl rfl ?_
      refine wp_aload_n dX10_fillCommon_28 rfl rfl ?_
      refine wp_aload_n dX10_fillCommon_29 rfl rfl ?_
      refine wp_iload_n dX10_fillCommon_30 rfl rfl ?_
      refine wp_callV (S := []) (as := [vR a1, vR a2, vI x3]) dX10_fillCommon_31 lX10_31 (((h.2 c1).2 c2)) (by omega) sh156 rfl rfl (Nat.le_of_ble_eq_true rfl) ⟨Nat.le_refl _, Nat.le_refl _⟩ ?_
      rintro _ _ V3 ⟨rfl, rfl, q3⟩
      show Wp _ _ _ _ _ 34 _ [] _ _ _ _ _
      refine wp_iinc dX10_fillCommon_34 rfl rfl ?_
      refine wp_goto (tgt := 10) dX10_fillCommon_37 rfl ?_
      exact q3
set_option maxHeartbeats 4000000 in
set_option maxRecDepth 10000 in
theorem sX10_fillCommonFrom {K : KK} {d : Nat} {V : Mem} {Q : Option AV → Mem → Prop} (a1 : Nat) (a2 : Nat) (x3 : Int) (h1 : IsChains a1) (h2 : IsChains a2) (h : (((0 : Int) ≤ x3 ∧ x3 < (21 : Nat)) ∧ Wf K (d + 1) mX10_fillCommonFrom 11 [some (vR 156), some (vR a1), some (vR a2), some (vI x3), some (vR (158 + 1 * Int.toNat x3)), some (vI 0), none, none, none] [] V Q)) : Mf K (d + 1) mX10_fillCommonFrom [vR 156, vR a1, vR a2, vI x3] V Q := by
  refine Mt.of2 (L := [some (vR 156), some (vR a1), some (vR a2), some (vI x3), none, none, none, none, none]) pnX10 rfl rfl ?_
  refine wp_aload_n dX10_fillCommonFrom_0 rfl rfl ?_
  refine wp_getR (b := 157) dX10_fillCommonFrom_1 fX10_11 rfl sh156 (by decide) rfl ?_
  refine wp_iload_n dX10_fillCommonFrom_4 rfl rfl ?_
  have g1 : (0 : Int) ≤ x3 ∧ x3 < (21 : Nat) := h.1
  refine wp_aald (b := (158 + 1 * Int.toNat x3)) dX10_fillCommonFrom_5 sh157 (by decide) g1 (ap_get (b := 158) (s := 1) (n := 21) g1) ?_
  refine wp_astore dX10_fillCommonFrom_6 (by decide) rfl ?_
  refine wp_iconst dX10_fillCommonFrom_8 (by decide) ?_
  refine wp_istore dX10_fillCommonFrom_9 (by decide) rfl ?_
  exact h.2
set_option maxHeartbeats 4000000 in
set_option maxRecDepth 10000 in
theorem sX10_fillCommonFrom_11 {K : KK} {d : Nat} {V : Mem} {Q : Option AV → Mem → Prop} (a1 : Nat) (a2 : Nat) (x3 : Int) (a4 : Nat) (x5 : Int) (h1 : IsChains a1) (h2 : IsChains a2) (h4 : SH[a4]? = some (14, 21, [])) (h : ((21 ≤ x5 → (((0 : Int) ≤ x3 ∧ x3 < (21 : Nat)) ∧ Wf K (d + 1) mX10_fillCommonFrom 43 [some (vR 156), some (vR a1), some (vR a2), none, some (vR a4), some (vI x3), none, none, none] [] (upm V a4 (Int.toNat x3) 0) Q)) ∧ (¬ (21 ≤ x5) → (((0 : Int) ≤ x5 ∧ x5 < (21 : Nat)) ∧ Wf K (d + 1) mX10_fillCommonFrom 11 [some (vR 156), some (vR a1), some (vR a2), some (vI x3), some (vR a4), some (vI (w32 (x5 + 1))), none, none, none] [] (upm V 179 (Int.toNat x5) 0) Q)))) : Wf K (d + 1) mX10_fillCommonFrom 11 [some (vR 156), some (vR a1), some (vR a2), some (vI x3), some (vR a4), some (vI x5), none, none, none] [] V Q := by
  refine wp_iload dX10_fillCommonFrom_11 rfl ?_
  refine wp_aload_n dX10_fillCommonFrom_13 rfl rfl ?_
  refine wp_getR (b := 179) dX10_fillCommonFrom_14 fX10_16 rfl sh156 (by decide) rfl ?_
  refine wp_alen dX10_fillCommonFrom_17 sh179 (by decide) (by decide) ?_
  refine wp_icmp_ge (tgt := 35) dX10_fillCommonFrom_18 rfl (fun c1 => ?_) (fun c1 => ?_)
  ·
    refine wp_aload dX10_fillCommonFrom_35 rfl ?_
    refine wp_iload_n dX10_fillCommonFrom_37 rfl rfl ?_
    refine wp_iconst dX10_fillCommonFrom_38 (by decide) ?_
    refine wp_iast dX10_fillCommonFrom_39 h4 (h.1 c1).1 ?_
    refine wp_iload_n dX10_fillCommonFrom_40 rfl rfl ?_
    refine wp_istore dX10_fillCommonFrom_41 (by decide) rfl ?_
    exact wp_loc (L2 := [some (vR 156), some (vR a1), some (vR a2), none, some (vR a4), some (vI x3), none, none, none]) ⟨rfl, ⟨rfl, ⟨rfl, ⟨rfl, ⟨rfl, trivial⟩⟩⟩⟩⟩ (h.1 c1).2
  ·
    refine wp_aload_n dX10_fillCommonFrom_21 rfl rfl ?_
    refine wp_getR (b := 179) dX10_fillCommonFrom_22 fX10_16 rfl sh156 (by decide) rfl ?_
    refine wp_iload dX10_fillCommonFrom_25 rfl ?_
    refine wp_iconst dX10_fillCommonFrom_27 (by decide) ?_
    refine wp_iast dX10_fillCommonFrom_28 sh179 (h.2 c1).1 ?_
    refine wp_iinc dX10_fillCommonFrom_29 rfl rfl ?_
    refine wp_goto (tgt := 11) dX10_fillCommonFrom_32 rfl ?_
    exact (h.2 c1).2
set_option maxHeartbeats 4000000 in
set_option maxRecDepth 10000 in
theorem sX10_fillCommonFrom_43 {K : KK} {d : Nat} {V : Mem} {Q : Option AV → Mem → Prop} (a1 : Nat) (a2 : Nat) (a4 : Nat) (x5 : Int) (h1 : IsChains a1) (h2 : IsChains a2) (h4 : SH[a4]? = some (14, 21, [])) (h : (((V 156 2) ≤ x5 → Q none V) ∧ (¬ ((V 156 2) ≤ x5) → Wf K (d + 1) mX10_fillCommonFrom 58 [some (vR 156), some (vR a1), some (vR a2), none, some (vR a4), some (vI x5), some (vI 0), some (vI 1), none] [] V Q))) : Wf K (d + 1) mX10_fillCommonFrom 43 [some (vR 156), some (vR a1), some (vR a2), none, some (vR a4), some (vI x5), none, none, none] [] V Q := by
  refine wp_iload dX10_fillCommonFrom_43 rfl ?_
  refine wp_aload_n dX10_fillCommonFrom_45 rfl rfl ?_
  refine wp_getI dX10_fillCommonFrom_46 fX10_26 rfl sh156 (by decide) ?_
  refine wp_icmp_ge (tgt := 172) dX10_fillCommonFrom_49 rfl (fun c1 => ?_) (fun c1 => ?_)
  ·
    exact wp_return dX10_fillCommonFrom_172 rfl ⟨rfl, rfl⟩ ⟨rfl, (h.1 c1)⟩
  ·
    refine wp_iconst dX10_fillCommonFrom_52 (by decide) ?_
    refine wp_istore dX10_fillCommonFrom_53 (by decide) rfl ?_
    refine wp_iconst dX10_fillCommonFrom_55 (by decide) ?_
    refine wp_istore dX10_fillCommonFrom_56 (by decide) rfl ?_
    exact (h.2 c1)
set_option maxHeartbeats 4000000 in
set_option maxRecDepth 10000 in
theorem sX10_fillCommonFrom_58 {K : KK} {d : Nat} {V : Mem} {Q : Option AV → Mem → Prop} (a1 : Nat) (a2 : Nat) (a4 : Nat) (x5 : Int) (x6 : Int) (x7 : Int) (h1 : IsChains a1) (h2 : IsChains a2) (h4 : SH[a4]? = some (14, 21, [])) (h : (((V a1 4) < x7 → (((0 : Int) ≤ (V a1 4) ∧ (V a1 4) < (21 : Nat)) ∧ (((0 : Int) ≤ (w32 (x5 + 1)) ∧ (w32 (x5 + 1)) < (21 : Nat)) ∧ Wf K (d + 1) mX10_fillCommonFrom 43 [some (vR 156), some (vR a1), some (vR a2), none, some (vR a4), some (vI (w32 (x5 + 1))), none, none, none] [] (upm V a4 (Int.toNat (w32 (x5 + 1))) (V 179 (Int.toNat (V a1 4)))) Q))) ∧ (¬ ((V a1 4) < x7) → ((21 ≤ x7 → (((0 : Int) ≤ (V a1 4) ∧ (V a1 4) < (21 : Nat)) ∧ (((0 : Int) ≤ (w32 (x5 + 1)) ∧ (w32 (x5 + 1)) < (21 : Nat)) ∧ Wf K (d + 1) mX10_fillCommonFrom 43 [some (vR 156), some (vR a1), some (vR a2), none, some (vR a4), some (vI (w32 (x5 + 1))), none, none, none] [] (upm V a4 (Int.toNat (w32 (x5 + 1))) (V 179 (Int.toNat (V a1 4)))) Q))) ∧ (¬ (21 ≤ x7) → (((0 : Int) ≤ x7 ∧ x7 < (21 : Nat)) ∧ (((0 : Int) ≤ (w32 (x7 - 1)) ∧ (w32 (x7 - 1)) < (20 : Nat)) ∧ (((0 : Int) ≤ x5 ∧ x5 < (20 : Nat)) ∧ ((¬ (V (a1 + 1) (Int.toNat (w32 (x7 - 1)))) = (V (a2 + 1) (Int.toNat x5)) → (((0 : Int) ≤ (w32 (x7 - 1)) ∧ (w32 (x7 - 1)) < (21 : Nat)) ∧ (((0 : Int) ≤ x7 ∧ x7 < (21 : Nat)) ∧ Wf K (d + 1) mX10_fillCommonFrom 58 [some (vR 156), some (vR a1), some (vR a2), none, some (vR a4), some (vI x5), some (vI (V 179 (Int.toNat x7))), some (vI (w32 (x7 + 1))), none] [] (upm V 179 (Int.toNat x7) (max (V 179 (Int.toNat x7)) (V 179 (Int.toNat (w32 (x7 - 1)))))) Q))) ∧ ((V (a1 + 1) (Int.toNat (w32 (x7 - 1)))) = (V (a2 + 1) (Int.toNat x5)) → (((0 : Int) ≤ x7 ∧ x7 < (21 : Nat)) ∧ Wf K (d + 1) mX10_fillCommonFrom 58 [some (vR 156), some (vR a1), some (vR a2), none, some (vR a4), some (vI x5), some (vI (V 179 (Int.toNat x7))), some (vI (w32 (x7 + 1))), none] [] (upm V 179 (Int.toNat x7) (w32 (x6 + 1))) Q))))))))))) : Wf K (d + 1) mX10_fillCommonFrom 58 [some (vR 156), some (vR a1), some (vR a2), none, some (vR a4), some (vI x5), some (vI x6), some (vI x7), none] [] V Q := by
  refine wp_iload dX10_fillCommonFrom_58 rfl ?_
  refine wp_aload_n dX10_fillCommonFrom_60 rfl rfl ?_
  refine wp_getI dX10_fillCommonFrom_61 fX10_20 rfl h1.1 (by decide) ?_
  refine wp_icmp_gt (tgt := 150) dX10_fillCommonFrom_64 rfl (fun c1 => ?_) (fun c1 => ?_)
  ·
    refine wp_aload dX10_fillCommonFrom_150 rfl ?_
    refine wp_iload dX10_fillCommonFrom_152 rfl ?_
    refine wp_iconst dX10_fillCommonFrom_154 (by decide) ?_
    refine wp_iadd dX10_fillCommonFrom_155 ?_
    refine wp_aload_n dX10_fillCommonFrom_156 rfl rfl ?_
    refine wp_getR (b := 179) dX10_fillCommonFrom_157 fX10_16 rfl sh156 (by decide) rfl ?_
    refine wp_aload_n dX10_fillCommonFrom_160 rfl rfl ?_
    refine wp_getI dX10_fillCommonFrom_161 fX10_20 rfl h1.1 (by decide) ?_
    refine wp_iald dX10_fillCommonFrom_164 sh179 (h.1 c1).1 ?_
    refine wp_iast dX10_fillCommonFrom_165 h4 (h.1 c1).2.1 ?_
    refine wp_iinc dX10_fillCommonFrom_166 rfl rfl ?_
    refine wp_goto (tgt := 43) dX10_fillCommonFrom_169 rfl ?_
    exact wp_loc (L2 := [some (vR 156), some (vR a1), some (vR a2), none, some (vR a4), some (vI (w32 (x5 + 1))), none, none, none]) ⟨rfl, ⟨rfl, ⟨rfl, ⟨rfl, ⟨rfl, trivial⟩⟩⟩⟩⟩ (h.1 c1).2.2
  ·
    refine wp_iload dX10_fillCommonFrom_67 rfl ?_
    refine wp_aload_n dX10_fillCommonFrom_69 rfl rfl ?_
    refine wp_getR (b := 179) dX10_fillCommonFrom_70 fX10_16 rfl sh156 (by decide) rfl ?_
    refine wp_alen dX10_fillCommonFrom_73 sh179 (by decide) (by decide) ?_
    refine wp_icmp_ge (tgt := 150) dX10_fillCommonFrom_74 rfl (fun c2 => ?_) (fun c2 => ?_)
    ·
      refine wp_aload dX10_fillCommonFrom_150 rfl ?_
      refine wp_iload dX10_fillCommonFrom_152 rfl ?_
      refine wp_iconst dX10_fillCommonFrom_154 (by decide) ?_
      refine wp_iadd dX10_fillCommonFrom_155 ?_
      refine wp_aload_n dX10_fillCommonFrom_156 rfl rfl ?_
      refine wp_getR (b := 179) dX10_fillCommonFrom_157 fX10_16 rfl sh156 (by decide) rfl ?_
      refine wp_aload_n dX10_fillCommonFrom_160 rfl rfl ?_
      refine wp_getI dX10_fillCommonFrom_161 fX10_20 rfl h1.1 (by decide) ?_
      refine wp_iald dX10_fillCommonFrom_164 sh179 ((h.2 c1).1 c2).1 ?_
      refine wp_iast dX10_fillCommonFrom_165 h4 ((h.2 c1).1 c2).2.1 ?_
      refine wp_iinc dX10_fillCommonFrom_166 rfl rfl ?_
      refine wp_goto (tgt := 43) dX10_fillCommonFrom_169 rfl ?_
      exact wp_loc (L2 := [some (vR 156), some (vR a1), some (vR a2), none, some (vR a4), some (vI (w32 (x5 + 1))), none, none, none]) ⟨rfl, ⟨rfl, ⟨rfl, ⟨rfl, ⟨rfl, trivial⟩⟩⟩⟩⟩ ((h.2 c1).1 c2).2.2
    ·
      refine wp_aload_n dX10_fillCommonFrom_77 rfl rfl ?_
      refine wp_getR (b := 179) dX10_fillCommonFrom_78 fX10_16 rfl sh156 (by decide) rfl ?_
      refine wp_iload dX10_fillCommonFrom_81 rfl ?_
      refine wp_iald dX10_fillCommonFrom_83 sh179 ((h.2 c1).2 c2).1 ?_
      refine wp_istore dX10_fillCommonFrom_84 (by decide) rfl ?_
      refine wp_aload_n dX10_fillCommonFrom_86 rfl rfl ?_
      refine wp_getR (b := (a1 + 1)) dX10_fillCommonFrom_87 fX10_35 rfl h1.1 (by decide) rfl ?_
      refine wp_iload dX10_fillCommonFrom_90 rfl ?_
      refine wp_iconst dX10_fillCommonFrom_92 (by decide) ?_
      refine wp_isub dX10_fillCommonFrom_93 ?_
      refine wp_iald dX10_fillCommonFrom_94 h1.2.1 ((h.2 c1).2 c2).2.1 ?_
      refine wp_aload_n dX10_fillCommonFrom_95 rfl rfl ?_
      refine wp_getR (b := (a2 + 1)) dX10_fillCommonFrom_96 fX10_35 rfl h2.1 (by decide) rfl ?_
      refine wp_iload dX10_fillCommonFrom_99 rfl ?_
      refine wp_iald dX10_fillCommonFrom_101 h2.2.1 ((h.2 c1).2 c2).2.2.1 ?_
      refine wp_icmp_ne (tgt := 119) dX10_fillCommonFrom_102 rfl (fun c3 => ?_) (fun c3 => ?_)
      ·
        refine wp_aload_n dX10_fillCommonFrom_119 rfl rfl ?_
        refine wp_getR (b := 179) dX10_fillCommonFrom_120 fX10_16 rfl sh156 (by decide) rfl ?_
        refine wp_iload dX10_fillCommonFrom_123 rfl ?_
        refine wp_iload dX10_fillCommonFrom_125 rfl ?_
        refine wp_aload_n dX10_fillCommonFrom_127 rfl rfl ?_
        refine wp_getR (b := 179) dX10_fillCommonFrom_128 fX10_16 rfl sh156 (by decide) rfl ?_
        refine wp_iload dX10_fillCommonFrom_131 rfl ?_
        refine wp_iconst dX10_fillCommonFrom_133 (by decide) ?_
        refine wp_isub dX10_fillCommonFrom_134 ?_
        refine wp_iald dX10_fillCommonFrom_135 sh179 (((h.2 c1).2 c2).2.2.2.1 c3).1 ?_
        refine wp_mmax dX10_fillCommonFrom_136 lX10_38 (by omega) (Nat.le_of_ble_eq_true rfl) ⟨Nat.le_refl _, Nat.le_refl _⟩ ?_
        refine wp_iast dX10_fillCommonFrom_139 sh179 (((h.2 c1).2 c2).2.2.2.1 c3).2.1 ?_
        refine wp_iload dX10_fillCommonFrom_140 rfl ?_
        refine wp_istore dX10_fillCommonFrom_142 (by decide) rfl ?_
        refine wp_iinc dX10_fillCommonFrom_144 rfl rfl ?_
        refine wp_goto (tgt := 58) dX10_fillCommonFrom_147 rfl ?_
        exact wp_loc (L2 := [some (vR 156), some (vR a1), some (vR a2), none, some (vR a4), some (vI x5), some (vI (V 179 (Int.toNat x7))), some (vI (w32 (x7 + 1))), none]) ⟨rfl, ⟨rfl, ⟨rfl, ⟨rfl, ⟨rfl, ⟨rfl, ⟨rfl, trivial⟩⟩⟩⟩⟩⟩⟩ (((h.2 c1).2 c2).2.2.2.1 c3).2.2
      ·
        refine wp_aload_n dX10_fillCommonFrom_105 rfl rfl ?_
        refine wp_getR (b := 179) dX10_fillCommonFrom_106 fX10_16 rfl sh156 (by decide) rfl ?_
        refine wp_iload dX10_fillCommonFrom_109 rfl ?_
        refine wp_iload dX10_fillCommonFrom_111 rfl ?_
        refine wp_iconst dX10_fillCommonFrom_113 (by decide) ?_
        refine wp_iadd dX10_fillCommonFrom_114 ?_
        refine wp_iast dX10_fillCommonFrom_115 sh179 (((h.2 c1).2 c2).2.2.2.2 c3).1 ?_
        refine wp_goto (tgt := 140) dX10_fillCommonFrom_116 rfl ?_
        refine wp_iload dX10_fillCommonFrom_140 rfl ?_
        refine wp_istore dX10_fillCommonFrom_142 (by decide) rfl ?_
        refine wp_iinc dX10_fillCommonFrom_144 rfl rfl ?_
        refine wp_goto (tgt := 58) dX10_fillCommonFrom_147 rfl ?_
        exact wp_loc (L2 := [some (vR 156), some (vR a1), some (vR a2), none, some (vR a4), some (vI x5), some (vI (V 179 (Int.toNat x7))), some (vI (w32 (x7 + 1))), none]) ⟨rfl, ⟨rfl, ⟨rfl, ⟨rfl, ⟨rfl, ⟨rfl, ⟨rfl, trivial⟩⟩⟩⟩⟩⟩⟩ (((h.2 c1).2 c2).2.2.2.2 c3).2
set_option maxHeartbeats 4000000 in
set_option maxRecDepth 10000 in
theorem sX10_lengthOf {K : KK} {d : Nat} {V : Mem} {Q : Option AV → Mem → Prop} (x1 : Int) (x2 : Int) (h : ((x1 < 0 → Q (some (vI 0)) V) ∧ (¬ (x1 < 0) → ((x2 < x1 → Q (some (vI 0)) V) ∧ (¬ (x2 < x1) → (((V 156 2) < x2 → Q (some (vI 0)) V) ∧ (¬ ((V 156 2) < x2) → ((x2 < 21 → (((0 : Int) ≤ x1 ∧ x1 < (21 : Nat)) ∧ (((0 : Int) ≤ x2 ∧ x2 < (21 : Nat)) ∧ Q (some (vI (V (158 + 1 * Int.toNat x1) (Int.toNat x2)))) V))) ∧ (¬ (x2 < 21) → Q (some (vI 0)) V))))))))) : Mf K d mX10_lengthOf [vR 156, vI x1, vI x2] V Q := by
  refine Mt.of2 (L := [some (vR 156), some (vI x1), some (vI x2)]) pnX10 rfl rfl ?_
  refine wp_iload_n dX10_lengthOf_0 rfl rfl ?_
  refine wp_if_lt (tgt := 26) dX10_lengthOf_1 rfl (fun c1 => ?_) (fun c1 => ?_)
  ·
    refine wp_iconst dX10_lengthOf_26 (by decide) ?_
    exact wp_ireturn dX10_lengthOf_27 rfl ⟨rfl, rfl⟩ ⟨rfl, (h.1 c1)⟩
  ·
    refine wp_iload_n dX10_lengthOf_4 rfl rfl ?_
    refine wp_iload_n dX10_lengthOf_5 rfl rfl ?_
    refine wp_icmp_gt (tgt := 26) dX10_lengthOf_6 rfl (fun c2 => ?_) (fun c2 => ?_)
    ·
      refine wp_iconst dX10_lengthOf_26 (by decide) ?_
      exact wp_ireturn dX10_lengthOf_27 rfl ⟨rfl, rfl⟩ ⟨rfl, ((h.2 c1).1 c2)⟩
    ·
      refine wp_iload_n dX10_lengthOf_9 rfl rfl ?_
      refine wp_aload_n dX10_lengthOf_10 rfl rfl ?_
      refine wp_getI dX10_lengthOf_11 fX10_26 rfl sh156 (by decide) ?_
      refine wp_icmp_gt (tgt := 26) dX10_lengthOf_14 rfl (fun c3 => ?_) (fun c3 => ?_)
      ·
        refine wp_iconst dX10_lengthOf_26 (by decide) ?_
        exact wp_ireturn dX10_lengthOf_27 rfl ⟨rfl, rfl⟩ ⟨rfl, (((h.2 c1).2 c2).1 c3)⟩
      ·
        refine wp_iload_n dX10_lengthOf_17 rfl rfl ?_
        refine wp_aload_n dX10_lengthOf_18 rfl rfl ?_
        refine wp_getR (b := 157) dX10_lengthOf_19 fX10_11 rfl sh156 (by decide) rfl ?_
        refine wp_alen dX10_lengthOf_22 sh157 (by decide) (by decide) ?_
        refine wp_icmp_lt (tgt := 28) dX10_lengthOf_23 rfl (fun c4 => ?_) (fun c4 => ?_)
        ·
          refine wp_aload_n dX10_lengthOf_28 rfl rfl ?_
          refine wp_getR (b := 157) dX10_lengthOf_29 fX10_11 rfl sh156 (by decide) rfl ?_
          refine wp_iload_n dX10_lengthOf_32 rfl rfl ?_
          have g5 : (0 : Int) ≤ x1 ∧ x1 < (21 : Nat) := ((((h.2 c1).2 c2).2 c3).1 c4).1
          refine wp_aald (b := (158 + 1 * Int.toNat x1)) dX10_lengthOf_33 sh157 (by decide) g5 (ap_get (b := 158) (s := 1) (n := 21) g5) ?_
          refine wp_iload_n dX10_lengthOf_34 rfl rfl ?_
          refine wp_iald dX10_lengthOf_35 (arr157 g5) ((((h.2 c1).2 c2).2 c3).1 c4).2.1 ?_
          exact wp_ireturn dX10_lengthOf_36 rfl ⟨rfl, rfl⟩ ⟨rfl, ((((h.2 c1).2 c2).2 c3).1 c4).2.2⟩
        ·
          refine wp_iconst dX10_lengthOf_26 (by decide) ?_
          exact wp_ireturn dX10_lengthOf_27 rfl ⟨rfl, rfl⟩ ⟨rfl, ((((h.2 c1).2 c2).2 c3).2 c4)⟩
set_option maxHeartbeats 4000000 in
set_option maxRecDepth 10000 in
theorem sX10_left {K : KK} {d : Nat} {V : Mem} {Q : Option AV → Mem → Prop} (x1 : Int) (x2 : Int) (h : ((x1 ≤ x2 → Mf K d mX10_lengthOf [vR 156, vI x1, vI x2] V (fun r V2 => ∃ z2, r = some (vI z2) ∧ Q (some (vI (w32 ((w32 (x2 - x1)) - z2)))) V2)) ∧ (¬ (x1 ≤ x2) → Q (some (vI 0)) V))) : Mf K (d + 1) mX10_left [vR 156, vI x1, vI x2] V Q := by
  refine Mt.of2 (L := [some (vR 156), some (vI x1), some (vI x2)]) pnX10 rfl rfl ?_
  refine wp_iload_n dX10_left_0 rfl rfl ?_
  refine wp_iload_n dX10_left_1 rfl rfl ?_
  refine wp_icmp_le (tgt := 9) dX10_left_2 rfl (fun c1 => ?_) (fun c1 => ?_)
  ·
    refine wp_iload_n dX10_left_9 rfl rfl ?_
    refine wp_iload_n dX10_left_10 rfl rfl ?_
    refine wp_isub dX10_left_11 ?_
    refine wp_aload_n dX10_left_12 rfl rfl ?_
    refine wp_iload_n dX10_left_13 rfl rfl ?_
    refine wp_iload_n dX10_left_14 rfl rfl ?_
    refine wp_callV (S := [vI (w32 (x2 - x1))]) (as := [vI x1, vI x2]) dX10_left_15 lX10_44 ((h.1 c1)) (by omega) sh156 rfl rfl (Nat.le_of_ble_eq_true rfl) ⟨Nat.le_refl _, Nat.le_refl _⟩ ?_
    rintro _ _ V2 ⟨rfl, z2, rfl, q2⟩
    show Wp _ _ _ _ _ 18 _ [vI z2, vI (w32 (x2 - x1))] _ _ _ _ _
    refine wp_isub dX10_left_18 ?_
    exact wp_ireturn dX10_left_19 rfl ⟨rfl, rfl⟩ ⟨rfl, q2⟩
  ·
    refine wp_iconst dX10_left_5 (by decide) ?_
    refine wp_goto (tgt := 19) dX10_left_6 rfl ?_
    exact wp_ireturn dX10_left_19 rfl ⟨rfl, rfl⟩ ⟨rfl, (h.2 c1)⟩
set_option maxHeartbeats 4000000 in
set_option maxRecDepth 10000 in
theorem sX10_strandFrom {K : KK} {d : Nat} {V : Mem} {Q : Option AV → Mem → Prop} (x1 : Int) (h : Wf K (d + 1) mX10_strandFrom 2 [some (vR 156), some (vI x1), some (vI x1), none] [] V Q) : Mf K (d + 1) mX10_strandFrom [vR 156, vI x1] V Q := by
  refine Mt.of2 (L := [some (vR 156), some (vI x1), none, none]) pnX10 rfl rfl ?_
  refine wp_iload_n dX10_strandFrom_0 rfl rfl ?_
  refine wp_istore_n dX10_strandFrom_1 rfl (by decide) rfl ?_
  exact h
set_option maxHeartbeats 4000000 in
set_option maxRecDepth 10000 in
theorem sX10_strandFrom_2 {K : KK} {d : Nat} {V : Mem} {Q : Option AV → Mem → Prop} (x1 : Int) (x2 : Int) (h : (((V 156 2) ≤ x2 → Q (some (vI (-1))) V) ∧ (¬ ((V 156 2) ≤ x2) → Mf K d mX10_left [vR 156, vI x1, vI (w32 (x2 + 1))] V (fun r V2 => ∃ z2, r = some (vI z2) ∧ Mf K d mX10_left [vR 156, vI (w32 (x1 + 1)), vI (w32 (x2 + 1))] V2 (fun r V3 => ∃ z3, r = some (vI z3) ∧ Mf K d mX10_left [vR 156, vI x1, vI x2] V3 (fun r V4 => ∃ z4, r = some (vI z4) ∧ Mf K d mX10_left [vR 156, vI (w32 (x1 + 1)), vI x2] V4 (fun r V5 => ∃ z5, r = some (vI z5) ∧ ((¬ (w32 ((w32 ((w32 (z2 - z3)) - z4)) + z5)) = 1 → Wf K (d + 1) mX10_strandFrom 2 [some (vR 156), some (vI x1), some (vI (w32 (x2 + 1))), none] [] V5 Q) ∧ ((w32 ((w32 ((w32 (z2 - z3)) - z4)) + z5)) = 1 → Q (some (vI x2)) V5))))))))) : Wf K (d + 1) mX10_strandFrom 2 [some (vR 156), some (vI x1), some (vI x2), none] [] V Q := by
  refine wp_iload_n dX10_strandFrom_2 rfl rfl ?_
  refine wp_aload_n dX10_strandFrom_3 rfl rfl ?_
  refine wp_getI dX10_strandFrom_4 fX10_26 rfl sh156 (by decide) ?_
  refine wp_icmp_ge (tgt := 59) dX10_strandFrom_7 rfl (fun c1 => ?_) (fun c1 => ?_)
  ·
    refine wp_iconst dX10_strandFrom_59 (by decide) ?_
    exact wp_ireturn dX10_strandFrom_60 rfl ⟨rfl, rfl⟩ ⟨rfl, (h.1 c1)⟩
  ·
    refine wp_aload_n dX10_strandFrom_10 rfl rfl ?_
    refine wp_iload_n dX10_strandFrom_11 rfl rfl ?_
    refine wp_iload_n dX10_strandFrom_12 rfl rfl ?_
    refine wp_iconst dX10_strandFrom_13 (by decide) ?_
    refine wp_iadd dX10_strandFrom_14 ?_
    refine wp_callV (S := []) (as := [vI x1, vI (w32 (x2 + 1))]) dX10_strandFrom_15 lX10_47 ((h.2 c1)) (by omega) sh156 rfl rfl (Nat.le_of_ble_eq_true rfl) ⟨Nat.le_refl _, Nat.le_refl _⟩ ?_
    rintro _ _ V2 ⟨rfl, z2, rfl, q2⟩
    show Wp _ _ _ _ _ 18 _ [vI z2] _ _ _ _ _
    refine wp_aload_n dX10_strandFrom_18 rfl rfl ?_
    refine wp_iload_n dX10_strandFrom_19 rfl rfl ?_
    refine wp_iconst dX10_strandFrom_20 (by decide) ?_
    refine wp_iadd dX10_strandFrom_21 ?_
    refine wp_iload_n dX10_strandFrom_22 rfl rfl ?_
    refine wp_iconst dX10_strandFrom_23 (by decide) ?_
    refine wp_iadd dX10_strandFrom_24 ?_
    refine wp_callV (S := [vI z2]) (as := [vI (w32 (x1 + 1)), vI (w32 (x2 + 1))]) dX10_strandFrom_25 lX10_47 (q2) (by omega) sh156 rfl rfl (Nat.le_of_ble_eq_true rfl) ⟨Nat.le_refl _, Nat.le_refl _⟩ ?_
    rintro _ _ V3 ⟨rfl, z3, rfl, q3⟩
    show Wp _ _ _ _ _ 28 _ [vI z3, vI z2] _ _ _ _ _
    refine wp_isub dX10_strandFrom_28 ?_
    refine wp_aload_n dX10_strandFrom_29 rfl rfl ?_
    refine wp_iload_n dX10_strandFrom_30 rfl rfl ?_
    refine wp_iload_n dX10_strandFrom_31 rfl rfl ?_
    refine wp_callV (S := [vI (w32 (z2 - z3))]) (as := [vI x1, vI x2]) dX10_strandFrom_32 lX10_47 (q3) (by omega) sh156 rfl rfl (Nat.le_of_ble_eq_true rfl) ⟨Nat.le_refl _, Nat.le_refl _⟩ ?_
    rintro _ _ V4 ⟨rfl, z4, rfl, q4⟩
    show Wp _ _ _ _ _ 35 _ [vI z4, vI (w32 (z2 - z3))] _ _ _ _ _
    refine wp_isub dX10_strandFrom_35 ?_
    refine wp_aload_n dX10_strandFrom_36 rfl rfl ?_
    refine wp_iload_n dX10_strandFrom_37 rfl rfl ?_
    refine wp_iconst dX10_strandFrom_38 (by decide) ?_
    refine wp_iadd dX10_strandFrom_39 ?_
    refine wp_iload_n dX10_strandFrom_40 rfl rfl ?_
    refine wp_callV (S := [vI (w32 ((w32 (z2 - z3)) - z4))]) (as := [vI (w32 (x1 + 1)), vI x2]) dX10_strandFrom_41 lX10_47 (q4) (by omega) sh156 rfl rfl (Nat.le_of_ble_eq_true rfl) ⟨Nat.le_refl _, Nat.le_refl _⟩ ?_
    rintro _ _ V5 ⟨rfl, z5, rfl, q5⟩
    show Wp _ _ _ _ _ 44 _ [vI z5, vI (w32 ((w32 (z2 - z3)) - z4))] _ _ _ _ _
    refine wp_iadd dX10_strandFrom_44 ?_
    refine wp_istore_n dX10_strandFrom_45 rfl (by decide) rfl ?_
    refine wp_iload_n dX10_strandFrom_46 rfl rfl ?_
    refine wp_iconst dX10_strandFrom_47 (by decide) ?_
    refine wp_icmp_ne (tgt := 53) dX10_strandFrom_48 rfl (fun c6 => ?_) (fun c6 => ?_)
    ·
      refine wp_iinc dX10_strandFrom_53 rfl rfl ?_
      refine wp_goto (tgt := 2) dX10_strandFrom_56 rfl ?_
      exact wp_loc (L2 := [some (vR 156), some (vI x1), some (vI (w32 (x2 + 1))), none]) ⟨rfl, ⟨rfl, ⟨rfl, trivial⟩⟩⟩ (q5.1 c6)
    ·
      refine wp_iload_n dX10_strandFrom_51 rfl rfl ?_
      exact wp_ireturn dX10_strandFrom_52 rfl ⟨rfl, rfl⟩ ⟨rfl, (q5.2 c6)⟩
set_option maxHeartbeats 4000000 in
set_option maxRecDepth 10000 in
theorem sX10_strandsWithin {K : KK} {d : Nat} {V : Mem} {Q : Option AV → Mem → Prop} (x1 : Int) (x2 : Int) (h : Wf K (d + 1) mX10_strandsWithin 5 [some (vR 156), none, some (vI x2), some (vI 0), some (vI x1), none] [] V Q) : Mf K (d + 1) mX10_strandsWithin [vR 156, vI x1, vI x2] V Q := by
  refine Mt.of2 (L := [some (vR 156), some (vI x1), some (vI x2), none, none, none]) pnX10 rfl rfl ?_
  refine wp_iconst dX10_strandsWithin_0 (by decide) ?_
  refine wp_istore_n dX10_strandsWithin_1 rfl (by decide) rfl ?_
  refine wp_iload_n dX10_strandsWithin_2 rfl rfl ?_
  refine wp_istore dX10_strandsWithin_3 (by decide) rfl ?_
  exact wp_loc (L2 := [some (vR 156), none, some (vI x2), some (vI 0), some (vI x1), none]) ⟨rfl, ⟨rfl, ⟨rfl, ⟨rfl, trivial⟩⟩⟩⟩ h
set_option maxHeartbeats 4000000 in
set_option maxRecDepth 10000 in
theorem sX10_strandsWithin_5 {K : KK} {d : Nat} {V : Mem} {Q : Option AV → Mem → Prop} (x2 : Int) (x3 : Int) (x4 : Int) (h : ((x2 ≤ x4 → Q (some (vI x3)) V) ∧ (¬ (x2 ≤ x4) → Mf K d mX10_strandFrom [vR 156, vI x4] V (fun r V2 => ∃ z2, r = some (vI z2) ∧ ((z2 = (-1) → Wf K (d + 1) mX10_strandsWithin 5 [some (vR 156), none, some (vI x2), some (vI x3), some (vI (w32 (x4 + 1))), none] [] V2 Q) ∧ (¬ (z2 = (-1)) → ((x2 ≤ z2 → Wf K (d + 1) mX10_strandsWithin 5 [some (vR 156), none, some (vI x2), some (vI x3), some (vI (w32 (x4 + 1))), none] [] V2 Q) ∧ (¬ (x2 ≤ z2) → Wf K (d + 1) mX10_strandsWithin 5 [some (vR 156), none, some (vI x2), some (vI (w32 (x3 + 1))), some (vI (w32 (x4 + 1))), none] [] V2 Q)))))))) : Wf K (d + 1) mX10_strandsWithin 5 [some (vR 156), none, some (vI x2), some (vI x3), some (vI x4), none] [] V Q := by
  refine wp_iload dX10_strandsWithin_5 rfl ?_
  refine wp_iload_n dX10_strandsWithin_7 rfl rfl ?_
  refine wp_icmp_ge (tgt := 40) dX10_strandsWithin_8 rfl (fun c1 => ?_) (fun c1 => ?_)
  ·
    refine wp_iload_n dX10_strandsWithin_40 rfl rfl ?_
    exact wp_ireturn dX10_strandsWithin_41 rfl ⟨rfl, rfl⟩ ⟨rfl, (h.1 c1)⟩
  ·
    refine wp_aload_n dX10_strandsWithin_11 rfl rfl ?_
    refine wp_iload dX10_strandsWithin_12 rfl ?_
    refine wp_callV (S := []) (as := [vI x4]) dX10_strandsWithin_14 lX10_50 ((h.2 c1)) (by omega) sh156 rfl rfl (Nat.le_of_ble_eq_true rfl) ⟨Nat.le_refl _, Nat.le_refl _⟩ ?_
    rintro _ _ V2 ⟨rfl, z2, rfl, q2⟩
    show Wp _ _ _ _ _ 17 _ [vI z2] _ _ _ _ _
    refine wp_istore dX10_strandsWithin_17 (by decide) rfl ?_
    refine wp_iload dX10_strandsWithin_19 rfl ?_
    refine wp_iconst dX10_strandsWithin_21 (by decide) ?_
    refine wp_icmp_eq (tgt := 34) dX10_strandsWithin_22 rfl (fun c3 => ?_) (fun c3 => ?_)
    ·
      refine wp_iinc dX10_strandsWithin_34 rfl rfl ?_
      refine wp_goto (tgt := 5) dX10_strandsWithin_37 rfl ?_
      exact wp_loc (L2 := [some (vR 156), none, some (vI x2), some (vI x3), some (vI (w32 (x4 + 1))), none]) ⟨rfl, ⟨rfl, ⟨rfl, ⟨rfl, trivial⟩⟩⟩⟩ (q2.1 c3)
    ·
      refine wp_iload dX10_strandsWithin_25 rfl ?_
      refine wp_iload_n dX10_strandsWithin_27 rfl rfl ?_
      refine wp_icmp_ge (tgt := 34) dX10_strandsWithin_28 rfl (fun c4 => ?_) (fun c4 => ?_)
      ·
        refine wp_iinc dX10_strandsWithin_34 rfl rfl ?_
        refine wp_goto (tgt := 5) dX10_strandsWithin_37 rfl ?_
        exact wp_loc (L2 := [some (vR 156), none, some (vI x2), some (vI x3), some (vI (w32 (x4 + 1))), none]) ⟨rfl, ⟨rfl, ⟨rfl, ⟨rfl, trivial⟩⟩⟩⟩ ((q2.2 c3).1 c4)
      ·
        refine wp_iinc dX10_strandsWithin_31 rfl rfl ?_
        refine wp_iinc dX10_strandsWithin_34 rfl rfl ?_
        refine wp_goto (tgt := 5) dX10_strandsWithin_37 rfl ?_
        exact wp_loc (L2 := [some (vR 156), none, some (vI x2), some (vI (w32 (x3 + 1))), some (vI (w32 (x4 + 1))), none]) ⟨rfl, ⟨rfl, ⟨rfl, ⟨rfl, trivial⟩⟩⟩⟩ ((q2.2 c3).2 c4)
set_option maxHeartbeats 4000000 in
set_option maxRecDepth 10000 in
theorem sX10_having {K : KK} {d : Nat} {V : Mem} {Q : Option AV → Mem → Prop} (x1 : Int) (h : Wf K (d + 1) mX10_having 4 [some (vR 156), some (vI x1), some (vI 0), some (vI 0), none] [] V Q) : Mf K (d + 1) mX10_having [vR 156, vI x1] V Q := by
  refine Mt.of2 (L := [some (vR 156), some (vI x1), none, none, none]) pnX10 rfl rfl ?_
  refine wp_iconst dX10_having_0 (by decide) ?_
  refine wp_istore_n dX10_having_1 rfl (by decide) rfl ?_
  refine wp_iconst dX10_having_2 (by decide) ?_
  refine wp_istore_n dX10_having_3 rfl (by decide) rfl ?_
  exact h
set_option maxHeartbeats 4000000 in
set_option maxRecDepth 10000 in
theorem sX10_having_4 {K : KK} {d : Nat} {V : Mem} {Q : Option AV → Mem → Prop} (x1 : Int) (x2 : Int) (x3 : Int) (h : (((V 156 2) < x3 → Q (some (vI x2)) V) ∧ (¬ ((V 156 2) < x3) → Wf K (d + 1) mX10_having 15 [some (vR 156), some (vI x1), some (vI x2), some (vI x3), some (vI x3)] [] V Q))) : Wf K (d + 1) mX10_having 4 [some (vR 156), some (vI x1), some (vI x2), some (vI x3), none] [] V Q := by
  refine wp_iload_n dX10_having_4 rfl rfl ?_
  refine wp_aload_n dX10_having_5 rfl rfl ?_
  refine wp_getI dX10_having_6 fX10_26 rfl sh156 (by decide) ?_
  refine wp_icmp_gt (tgt := 50) dX10_having_9 rfl (fun c1 => ?_) (fun c1 => ?_)
  ·
    refine wp_iload_n dX10_having_50 rfl rfl ?_
    exact wp_ireturn dX10_having_51 rfl ⟨rfl, rfl⟩ ⟨rfl, (h.1 c1)⟩
  ·
    refine wp_iload_n dX10_having_12 rfl rfl ?_
    refine wp_istore dX10_having_13 (by decide) rfl ?_
    exact (h.2 c1)
set_option maxHeartbeats 4000000 in
set_option maxRecDepth 10000 in
theorem sX10_having_15 {K : KK} {d : Nat} {V : Mem} {Q : Option AV → Mem → Prop} (x1 : Int) (x2 : Int) (x3 : Int) (x4 : Int) (h : (((V 156 2) < x4 → Wf K (d + 1) mX10_having 4 [some (vR 156), some (vI x1), some (vI x2), some (vI (w32 (x3 + 1))), none] [] V Q) ∧ (¬ ((V 156 2) < x4) → Mf K d mX10_lengthOf [vR 156, vI x3, vI x4] V (fun r V2 => ∃ z2, r = some (vI z2) ∧ ((¬ z2 = x1 → Wf K (d + 1) mX10_having 15 [some (vR 156), some (vI x1), some (vI x2), some (vI x3), some (vI (w32 (x4 + 1)))] [] V2 Q) ∧ (z2 = x1 → Wf K (d + 1) mX10_having 15 [some (vR 156), some (vI x1), some (vI (w32 (x2 + 1))), some (vI x3), some (vI (w32 (x4 + 1)))] [] V2 Q)))))) : Wf K (d + 1) mX10_having 15 [some (vR 156), some (vI x1), some (vI x2), some (vI x3), some (vI x4)] [] V Q := by
  refine wp_iload dX10_having_15 rfl ?_
  refine wp_aload_n dX10_having_17 rfl rfl ?_
  refine wp_getI dX10_having_18 fX10_26 rfl sh156 (by decide) ?_
  refine wp_icmp_gt (tgt := 44) dX10_having_21 rfl (fun c1 => ?_) (fun c1 => ?_)
  ·
    refine wp_iinc dX10_having_44 rfl rfl ?_
    refine wp_goto (tgt := 4) dX10_having_47 rfl ?_
    exact wp_loc (L2 := [some (vR 156), some (vI x1), some (vI x2), some (vI (w32 (x3 + 1))), none]) ⟨rfl, ⟨rfl, ⟨rfl, ⟨rfl, trivial⟩⟩⟩⟩ (h.1 c1)
  ·
    refine wp_aload_n dX10_having_24 rfl rfl ?_
    refine wp_iload_n dX10_having_25 rfl rfl ?_
    refine wp_iload dX10_having_26 rfl ?_
    refine wp_callV (S := []) (as := [vI x3, vI x4]) dX10_having_28 lX10_44 ((h.2 c1)) (by omega) sh156 rfl rfl (Nat.le_of_ble_eq_true rfl) ⟨Nat.le_refl _, Nat.le_refl _⟩ ?_
    rintro _ _ V2 ⟨rfl, z2, rfl, q2⟩
    show Wp _ _ _ _ _ 31 _ [vI z2] _ _ _ _ _
    refine wp_iload_n dX10_having_31 rfl rfl ?_
    refine wp_icmp_ne (tgt := 38) dX10_having_32 rfl (fun c3 => ?_) (fun c3 => ?_)
    ·
      refine wp_iinc dX10_having_38 rfl rfl ?_
      refine wp_goto (tgt := 15) dX10_having_41 rfl ?_
      exact (q2.1 c3)
    ·
      refine wp_iinc dX10_having_35 rfl rfl ?_
      refine wp_iinc dX10_having_38 rfl rfl ?_
      refine wp_goto (tgt := 15) dX10_having_41 rfl ?_
      exact (q2.2 c3)
set_option maxHeartbeats 4000000 in
set_option maxRecDepth 10000 in
theorem sX10_bestFrom {K : KK} {d : Nat} {V : Mem} {Q : Option AV → Mem → Prop} (x1 : Int) (h : Wf K (d + 1) mX10_bestFrom 4 [some (vR 156), some (vI x1), some (vI 0), some (vI 1)] [] V Q) : Mf K (d + 1) mX10_bestFrom [vR 156, vI x1] V Q := by
  refine Mt.of2 (L := [some (vR 156), some (vI x1), none, none]) pnX10 rfl rfl ?_
  refine wp_iconst dX10_bestFrom_0 (by decide) ?_
  refine wp_istore_n dX10_bestFrom_1 rfl (by decide) rfl ?_
  refine wp_iconst dX10_bestFrom_2 (by decide) ?_
  refine wp_istore_n dX10_bestFrom_3 rfl (by decide) rfl ?_
  exact h
set_option maxHeartbeats 4000000 in
set_option maxRecDepth 10000 in
theorem sX10_bestFrom_4 {K : KK} {d : Nat} {V : Mem} {Q : Option AV → Mem → Prop} (x1 : Int) (x2 : Int) (x3 : Int) (h : (((w32 ((V 156 2) - x1)) < x3 → Q (some (vI x2)) V) ∧ (¬ ((w32 ((V 156 2) - x1)) < x3) → Mf K d mX10_lengthOf [vR 156, vI x3, vI (w32 (x3 + x1))] V (fun r V2 => ∃ z2, r = some (vI z2) ∧ Mf K d mX10_lengthOf [vR 156, vI x2, vI (w32 (x2 + x1))] V2 (fun r V3 => ∃ z3, r = some (vI z3) ∧ ((z2 ≤ z3 → Wf K (d + 1) mX10_bestFrom 4 [some (vR 156), some (vI x1), some (vI x2), some (vI (w32 (x3 + 1)))] [] V3 Q) ∧ (¬ (z2 ≤ z3) → Wf K (d + 1) mX10_bestFrom 4 [some (vR 156), some (vI x1), some (vI x3), some (vI (w32 (x3 + 1)))] [] V3 Q))))))) : Wf K (d + 1) mX10_bestFrom 4 [some (vR 156), some (vI x1), some (vI x2), some (vI x3)] [] V Q := by
  refine wp_iload_n dX10_bestFrom_4 rfl rfl ?_
  refine wp_aload_n dX10_bestFrom_5 rfl rfl ?_
  refine wp_getI dX10_bestFrom_6 fX10_26 rfl sh156 (by decide) ?_
  refine wp_iload_n dX10_bestFrom_9 rfl rfl ?_
  refine wp_isub dX10_bestFrom_10 ?_
  refine wp_icmp_gt (tgt := 41) dX10_bestFrom_11 rfl (fun c1 => ?_) (fun c1 => ?_)
  ·
    refine wp_iload_n dX10_bestFrom_41 rfl rfl ?_
    exact wp_ireturn dX10_bestFrom_42 rfl ⟨rfl, rfl⟩ ⟨rfl, (h.1 c1)⟩
  ·
    refine wp_aload_n dX10_bestFrom_14 rfl rfl ?_
    refine wp_iload_n dX10_bestFrom_15 rfl rfl ?_
    refine wp_iload_n dX10_bestFrom_16 rfl rfl ?_
    refine wp_iload_n dX10_bestFrom_17 rfl rfl ?_
    refine wp_iadd dX10_bestFrom_18 ?_
    refine wp_callV (S := []) (as := [vI x3, vI (w32 (x3 + x1))]) dX10_bestFrom_19 lX10_44 ((h.2 c1)) (by omega) sh156 rfl rfl (Nat.le_of_ble_eq_true rfl) ⟨Nat.le_refl _, Nat.le_refl _⟩ ?_
    rintro _ _ V2 ⟨rfl, z2, rfl, q2⟩
    show Wp _ _ _ _ _ 22 _ [vI z2] _ _ _ _ _
    refine wp_aload_n dX10_bestFrom_22 rfl rfl ?_
    refine wp_iload_n dX10_bestFrom_23 rfl rfl ?_
    refine wp_iload_n dX10_bestFrom_24 rfl rfl ?_
    refine wp_iload_n dX10_bestFrom_25 rfl rfl ?_
    refine wp_iadd dX10_bestFrom_26 ?_
    refine wp_callV (S := [vI z2]) (as := [vI x2, vI (w32 (x2 + x1))]) dX10_bestFrom_27 lX10_44 (q2) (by omega) sh156 rfl rfl (Nat.le_of_ble_eq_true rfl) ⟨Nat.le_refl _, Nat.le_refl _⟩ ?_
    rintro _ _ V3 ⟨rfl, z3, rfl, q3⟩
    show Wp _ _ _ _ _ 30 _ [vI z3, vI z2] _ _ _ _ _
    refine wp_icmp_le (tgt := 35) dX10_bestFrom_30 rfl (fun c4 => ?_) (fun c4 => ?_)
    ·
      refine wp_iinc dX10_bestFrom_35 rfl rfl ?_
      refine wp_goto (tgt := 4) dX10_bestFrom_38 rfl ?_
      exact (q3.1 c4)
    ·
      refine wp_iload_n dX10_bestFrom_33 rfl rfl ?_
      refine wp_istore_n dX10_bestFrom_34 rfl (by decide) rfl ?_
      refine wp_iinc dX10_bestFrom_35 rfl rfl ?_
      refine wp_goto (tgt := 4) dX10_bestFrom_38 rfl ?_
      exact (q3.2 c4)
set_option maxHeartbeats 4000000 in
set_option maxRecDepth 10000 in
theorem sX10_narrowest {K : KK} {d : Nat} {V : Mem} {Q : Option AV → Mem → Prop} (x1 : Int) (h : Wf K (d + 1) mX10_narrowest 2 [some (vR 156), some (vI x1), some (vI 0), none] [] V Q) : Mf K (d + 1) mX10_narrowest [vR 156, vI x1] V Q := by
  refine Mt.of2 (L := [some (vR 156), some (vI x1), none, none]) pnX10 rfl rfl ?_
  refine wp_iconst dX10_narrowest_0 (by decide) ?_
  refine wp_istore_n dX10_narrowest_1 rfl (by decide) rfl ?_
  exact h
set_option maxHeartbeats 4000000 in
set_option maxRecDepth 10000 in
theorem sX10_narrowest_2 {K : KK} {d : Nat} {V : Mem} {Q : Option AV → Mem → Prop} (x1 : Int) (x2 : Int) (h : (((V 156 2) < x2 → Q (some (vI (-1))) V) ∧ (¬ ((V 156 2) < x2) → Wf K (d + 1) mX10_narrowest 12 [some (vR 156), some (vI x1), some (vI x2), some (vI 0)] [] V Q))) : Wf K (d + 1) mX10_narrowest 2 [some (vR 156), some (vI x1), some (vI x2), none] [] V Q := by
  refine wp_iload_n dX10_narrowest_2 rfl rfl ?_
  refine wp_aload_n dX10_narrowest_3 rfl rfl ?_
  refine wp_getI dX10_narrowest_4 fX10_26 rfl sh156 (by decide) ?_
  refine wp_icmp_gt (tgt := 55) dX10_narrowest_7 rfl (fun c1 => ?_) (fun c1 => ?_)
  ·
    refine wp_iconst dX10_narrowest_55 (by decide) ?_
    exact wp_ireturn dX10_narrowest_56 rfl ⟨rfl, rfl⟩ ⟨rfl, (h.1 c1)⟩
  ·
    refine wp_iconst dX10_narrowest_10 (by decide) ?_
    refine wp_istore_n dX10_narrowest_11 rfl (by decide) rfl ?_
    exact (h.2 c1)
set_option maxHeartbeats 4000000 in
set_option maxRecDepth 10000 in
theorem sX10_narrowest_12 {K : KK} {d : Nat} {V : Mem} {Q : Option AV → Mem → Prop} (x1 : Int) (x2 : Int) (x3 : Int) (h : (((w32 ((V 156 2) - x2)) < x3 → Wf K (d + 1) mX10_narrowest 2 [some (vR 156), some (vI x1), some (vI (w32 (x2 + 1))), none] [] V Q) ∧ (¬ ((w32 ((V 156 2) - x2)) < x3) → Mf K d mX10_lengthOf [vR 156, vI x3, vI (w32 (x3 + x2))] V (fun r V2 => ∃ z2, r = some (vI z2) ∧ ((z2 < x1 → Wf K (d + 1) mX10_narrowest 12 [some (vR 156), some (vI x1), some (vI x2), some (vI (w32 (x3 + 1)))] [] V2 Q) ∧ (¬ (z2 < x1) → Q (some (vI (w32 ((w32 ((w32 (32 * x3)) + x3)) + x2)))) V2)))))) : Wf K (d + 1) mX10_narrowest 12 [some (vR 156), some (vI x1), some (vI x2), some (vI x3)] [] V Q := by
  refine wp_iload_n dX10_narrowest_12 rfl rfl ?_
  refine wp_aload_n dX10_narrowest_13 rfl rfl ?_
  refine wp_getI dX10_narrowest_14 fX10_26 rfl sh156 (by decide) ?_
  refine wp_iload_n dX10_narrowest_17 rfl rfl ?_
  refine wp_isub dX10_narrowest_18 ?_
  refine wp_icmp_gt (tgt := 49) dX10_narrowest_19 rfl (fun c1 => ?_) (fun c1 => ?_)
  ·
    refine wp_iinc dX10_narrowest_49 rfl rfl ?_
    refine wp_goto (tgt := 2) dX10_narrowest_52 rfl ?_
    exact wp_loc (L2 := [some (vR 156), some (vI x1), some (vI (w32 (x2 + 1))), none]) ⟨rfl, ⟨rfl, ⟨rfl, trivial⟩⟩⟩ (h.1 c1)
  ·
    refine wp_aload_n dX10_narrowest_22 rfl rfl ?_
    refine wp_iload_n dX10_narrowest_23 rfl rfl ?_
    refine wp_iload_n dX10_narrowest_24 rfl rfl ?_
    refine wp_iload_n dX10_narrowest_25 rfl rfl ?_
    refine wp_iadd dX10_narrowest_26 ?_
    refine wp_callV (S := []) (as := [vI x3, vI (w32 (x3 + x2))]) dX10_narrowest_27 lX10_44 ((h.2 c1)) (by omega) sh156 rfl rfl (Nat.le_of_ble_eq_true rfl) ⟨Nat.le_refl _, Nat.le_refl _⟩ ?_
    rintro _ _ V2 ⟨rfl, z2, rfl, q2⟩
    show Wp _ _ _ _ _ 30 _ [vI z2] _ _ _ _ _
    refine wp_iload_n dX10_narrowest_30 rfl rfl ?_
    refine wp_icmp_lt (tgt := 43) dX10_narrowest_31 rfl (fun c3 => ?_) (fun c3 => ?_)
    ·
      refine wp_iinc dX10_narrowest_43 rfl rfl ?_
      refine wp_goto (tgt := 12) dX10_narrowest_46 rfl ?_
      exact (q2.1 c3)
    ·
      refine wp_bipush dX10_narrowest_34 (by decide) ?_
      refine wp_iload_n dX10_narrowest_36 rfl rfl ?_
      refine wp_imul dX10_narrowest_37 ?_
      refine wp_iload_n dX10_narrowest_38 rfl rfl ?_
      refine wp_iadd dX10_narrowest_39 ?_
      refine wp_iload_n dX10_narrowest_40 rfl rfl ?_
      refine wp_iadd dX10_narrowest_41 ?_
      exact wp_ireturn dX10_narrowest_42 rfl ⟨rfl, rfl⟩ ⟨rfl, (q2.2 c3)⟩
