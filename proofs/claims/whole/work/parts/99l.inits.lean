/-! ===== the constructors, by program ===== -/
def C0 (n : Nat) : List SC := [(0, 4, [some (n + 1), none, none, none]), (14, 10, [])]
theorem C0_len (n : Nat) : (C0 n).length = 2 := rfl
set_option maxRecDepth 100000 in
set_option maxHeartbeats 4000000 in
theorem ic_C0 {K : KK} (hE : kE K = true) (hZ : ∀ U H, kZ K U H → OKZ U) (d : Nat) : IC K (d + 1) mX0_init 1 10 0 4 [] C0 (fun _ V => V) := by
  intro pre n0 V hp hz
  refine Mt.of2 (L := enL mX0_init.2.2.1 (vR n0 :: [])) rfl rfl rfl ?_
  refine wp_aload_n dX0_init_0 rfl rfl ?_
  refine wp_objInit dX0_init_1 lX0_3 (by omega) (Nat.le_of_ble_eq_true rfl) ?_
  refine wp_aload_n dX0_init_4 rfl rfl ?_
  refine wp_bipush dX0_init_5 (by decide) ?_
  refine wt_newa (c := 14) (t := 1) hp rfl (by decide) dX0_init_7 nwa_int hE (by decide) ((hz).mono (by omega)) (by decide) ?_
  refine wt_nrm (L2 := [some (vR n0)]) (T2 := [(0, 4, [none, none, none, none]), (14, 10, [])]) (cl2 := 1) (sl2 := 10) rfl rfl rfl rfl ?_
  refine wt_putF (i := 0) hp rfl dX0_init_9 ffX0_9 rfl rfl rfl (by decide) (Nat.le_of_ble_eq_true rfl) ?_
  refine wt_nrm (L2 := [some (vR n0)]) (T2 := [(0, 4, [some (n0 + 1), none, none, none]), (14, 10, [])]) (cl2 := 1) (sl2 := 10) rfl rfl rfl rfl ?_
  refine wp_return dX0_init_12 rfl (by decide) ⟨rfl, rfl, rfl⟩
def C6 (n : Nat) : List SC := [(6, 4, [some (n + 1), none, none, none]), (14, 20, [])]
theorem C6_len (n : Nat) : (C6 n).length = 2 := rfl
set_option maxRecDepth 100000 in
set_option maxHeartbeats 4000000 in
theorem ic_C6 {K : KK} (hE : kE K = true) (hZ : ∀ U H, kZ K U H → OKZ U) (d : Nat) : IC K (d + 1) mX6_init 1 20 6 4 [] C6 (fun _ V => V) := by
  intro pre n0 V hp hz
  refine Mt.of2 (L := enL mX6_init.2.2.1 (vR n0 :: [])) rfl rfl rfl ?_
  refine wp_aload_n dX6_init_0 rfl rfl ?_
  refine wp_objInit dX6_init_1 lX6_3 (by omega) (Nat.le_of_ble_eq_true rfl) ?_
  refine wp_aload_n dX6_init_4 rfl rfl ?_
  refine wp_bipush dX6_init_5 (by decide) ?_
  refine wt_newa (c := 14) (t := 1) hp rfl (by decide) dX6_init_7 nwa_int hE (by decide) ((hz).mono (by omega)) (by decide) ?_
  refine wt_nrm (L2 := [some (vR n0)]) (T2 := [(6, 4, [none, none, none, none]), (14, 20, [])]) (cl2 := 1) (sl2 := 20) rfl rfl rfl rfl ?_
  refine wt_putF (i := 0) hp rfl dX6_init_9 ffX6_9 rfl rfl rfl (by decide) (Nat.le_of_ble_eq_true rfl) ?_
  refine wt_nrm (L2 := [some (vR n0)]) (T2 := [(6, 4, [some (n0 + 1), none, none, none]), (14, 20, [])]) (cl2 := 1) (sl2 := 20) rfl rfl rfl rfl ?_
  refine wp_return dX6_init_12 rfl (by decide) ⟨rfl, rfl, rfl⟩
def C1 (n : Nat) : List SC := [(1, 9, [some (n + 1), some (n + 2), some (n + 3), some (n + 4), none, none, none, none, none]), (14, 20, []), (14, 20, []), (14, 20, []), (14, 20, [])]
theorem C1_len (n : Nat) : (C1 n).length = 5 := rfl
set_option maxRecDepth 100000 in
set_option maxHeartbeats 4000000 in
theorem ic_C1 {K : KK} (hE : kE K = true) (hZ : ∀ U H, kZ K U H → OKZ U) (d : Nat) : IC K (d + 1) mX1_init 4 80 1 9 [] C1 (fun _ V => V) := by
  intro pre n0 V hp hz
  refine Mt.of2 (L := enL mX1_init.2.2.1 (vR n0 :: [])) rfl rfl rfl ?_
  refine wp_aload_n dX1_init_0 rfl rfl ?_
  refine wp_objInit dX1_init_1 lX1_3 (by omega) (Nat.le_of_ble_eq_true rfl) ?_
  refine wp_aload_n dX1_init_4 rfl rfl ?_
  refine wp_bipush dX1_init_5 (by decide) ?_
  refine wt_newa (c := 14) (t := 1) hp rfl (by decide) dX1_init_7 nwa_int hE (by decide) ((hz).mono (by omega)) (by decide) ?_
  refine wt_nrm (L2 := [some (vR n0)]) (T2 := [(1, 9, [none, none, none, none, none, none, none, none, none]), (14, 20, [])]) (cl2 := 1) (sl2 := 20) rfl rfl rfl rfl ?_
  refine wt_putF (i := 0) hp rfl dX1_init_9 ffX1_9 rfl rfl rfl (by decide) (Nat.le_of_ble_eq_true rfl) ?_
  refine wt_nrm (L2 := [some (vR n0)]) (T2 := [(1, 9, [some (n0 + 1), none, none, none, none, none, none, none, none]), (14, 20, [])]) (cl2 := 1) (sl2 := 20) rfl rfl rfl rfl ?_
  refine wp_aload_n dX1_init_12 rfl rfl ?_
  refine wp_bipush dX1_init_13 (by decide) ?_
  refine wt_newa (c := 14) (t := 2) hp rfl (by decide) dX1_init_15 nwa_int hE (by decide) ((hz).mono (by omega)) (by decide) ?_
  refine wt_nrm (L2 := [some (vR n0)]) (T2 := [(1, 9, [some (n0 + 1), none, none, none, none, none, none, none, none]), (14, 20, []), (14, 20, [])]) (cl2 := 2) (sl2 := 40) rfl rfl rfl rfl ?_
  refine wt_putF (i := 0) hp rfl dX1_init_17 ffX1_15 rfl rfl rfl (by decide) (Nat.le_of_ble_eq_true rfl) ?_
  refine wt_nrm (L2 := [some (vR n0)]) (T2 := [(1, 9, [some (n0 + 1), some (n0 + 2), none, none, none, none, none, none, none]), (14, 20, []), (14, 20, [])]) (cl2 := 2) (sl2 := 40) rfl rfl rfl rfl ?_
  refine wp_aload_n dX1_init_20 rfl rfl ?_
  refine wp_bipush dX1_init_21 (by decide) ?_
  refine wt_newa (c := 14) (t := 3) hp rfl (by decide) dX1_init_23 nwa_int hE (by decide) ((hz).mono (by omega)) (by decide) ?_
  refine wt_nrm (L2 := [some (vR n0)]) (T2 := [(1, 9, [some (n0 + 1), some (n0 + 2), none, none, none, none, none, none, none]), (14, 20, []), (14, 20, []), (14, 20, [])]) (cl2 := 3) (sl2 := 60) rfl rfl rfl rfl ?_
  refine wt_putF (i := 0) hp rfl dX1_init_25 ffX1_18 rfl rfl rfl (by decide) (Nat.le_of_ble_eq_true rfl) ?_
  refine wt_nrm (L2 := [some (vR n0)]) (T2 := [(1, 9, [some (n0 + 1), some (n0 + 2), some (n0 + 3), none, none, none, none, none, none]), (14, 20, []), (14, 20, []), (14, 20, [])]) (cl2 := 3) (sl2 := 60) rfl rfl rfl rfl ?_
  refine wp_aload_n dX1_init_28 rfl rfl ?_
  refine wp_bipush dX1_init_29 (by decide) ?_
  refine wt_newa (c := 14) (t := 4) hp rfl (by decide) dX1_init_31 nwa_int hE (by decide) ((hz).mono (by omega)) (by decide) ?_
  refine wt_nrm (L2 := [some (vR n0)]) (T2 := [(1, 9, [some (n0 + 1), some (n0 + 2), some (n0 + 3), none, none, none, none, none, none]), (14, 20, []), (14, 20, []), (14, 20, []), (14, 20, [])]) (cl2 := 4) (sl2 := 80) rfl rfl rfl rfl ?_
  refine wt_putF (i := 0) hp rfl dX1_init_33 ffX1_21 rfl rfl rfl (by decide) (Nat.le_of_ble_eq_true rfl) ?_
  refine wt_nrm (L2 := [some (vR n0)]) (T2 := [(1, 9, [some (n0 + 1), some (n0 + 2), some (n0 + 3), some (n0 + 4), none, none, none, none, none]), (14, 20, []), (14, 20, []), (14, 20, []), (14, 20, [])]) (cl2 := 4) (sl2 := 80) rfl rfl rfl rfl ?_
  refine wp_return dX1_init_36 rfl (by decide) ⟨rfl, rfl, rfl⟩
def C3_30 (n : Nat) : List SC := [(3, 4, [some (n + 1), some (n + 2), some (n + 3), none]), (14, 30, []), (14, 30, []), (14, 30, [])]
theorem C3_30_len (n : Nat) : (C3_30 n).length = 4 := rfl
set_option maxRecDepth 100000 in
set_option maxHeartbeats 4000000 in
theorem ic_C3_30 {K : KK} (hE : kE K = true) (hZ : ∀ U H, kZ K U H → OKZ U) (d : Nat) : IC K (d + 2) mX3_init 3 90 3 4 [vI 30] C3_30 (fun _ V => V) := by
  intro pre n0 V hp hz
  refine Mt.of2 (L := enL mX3_init.2.2.1 (vR n0 :: [vI 30])) rfl rfl rfl ?_
  refine wp_aload_n dX3_init_0 rfl rfl ?_
  refine wp_objInit dX3_init_1 lX3_3 (by omega) (Nat.le_of_ble_eq_true rfl) ?_
  refine wp_iload_n dX3_init_4 rfl rfl ?_
  refine wp_iconst dX3_init_5 (by decide) ?_
  refine wp_mmax dX3_init_6 lX3_9 (by omega) (Nat.le_of_ble_eq_true rfl) (by decide) ?_
  rw [show max (30 : Int) 1 = 30 from by decide]
  refine wp_istore_n dX3_init_9 rfl (by decide) rfl ?_
  refine wp_aload_n dX3_init_10 rfl rfl ?_
  refine wp_iload_n dX3_init_11 rfl rfl ?_
  refine wt_newa (c := 14) (t := 1) hp rfl (by decide) dX3_init_12 nwa_int hE (by decide) ((hz).mono (by omega)) (by decide) ?_
  refine wt_nrm (L2 := [some (vR n0), some (vI 30), some (vI 30)]) (T2 := [(3, 4, [none, none, none, none]), (14, 30, [])]) (cl2 := 1) (sl2 := 30) rfl rfl rfl rfl ?_
  refine wt_putF (i := 0) hp rfl dX3_init_14 ffX3_15 rfl rfl rfl (by decide) (Nat.le_of_ble_eq_true rfl) ?_
  refine wt_nrm (L2 := [some (vR n0), some (vI 30), some (vI 30)]) (T2 := [(3, 4, [some (n0 + 1), none, none, none]), (14, 30, [])]) (cl2 := 1) (sl2 := 30) rfl rfl rfl rfl ?_
  refine wp_aload_n dX3_init_17 rfl rfl ?_
  refine wp_iload_n dX3_init_18 rfl rfl ?_
  refine wt_newa (c := 14) (t := 2) hp rfl (by decide) dX3_init_19 nwa_int hE (by decide) ((hz).mono (by omega)) (by decide) ?_
  refine wt_nrm (L2 := [some (vR n0), some (vI 30), some (vI 30)]) (T2 := [(3, 4, [some (n0 + 1), none, none, none]), (14, 30, []), (14, 30, [])]) (cl2 := 2) (sl2 := 60) rfl rfl rfl rfl ?_
  refine wt_putF (i := 0) hp rfl dX3_init_21 ffX3_21 rfl rfl rfl (by decide) (Nat.le_of_ble_eq_true rfl) ?_
  refine wt_nrm (L2 := [some (vR n0), some (vI 30), some (vI 30)]) (T2 := [(3, 4, [some (n0 + 1), some (n0 + 2), none, none]), (14, 30, []), (14, 30, [])]) (cl2 := 2) (sl2 := 60) rfl rfl rfl rfl ?_
  refine wp_aload_n dX3_init_24 rfl rfl ?_
  refine wp_iload_n dX3_init_25 rfl rfl ?_
  refine wt_newa (c := 14) (t := 3) hp rfl (by decide) dX3_init_26 nwa_int hE (by decide) ((hz).mono (by omega)) (by decide) ?_
  refine wt_nrm (L2 := [some (vR n0), some (vI 30), some (vI 30)]) (T2 := [(3, 4, [some (n0 + 1), some (n0 + 2), none, none]), (14, 30, []), (14, 30, []), (14, 30, [])]) (cl2 := 3) (sl2 := 90) rfl rfl rfl rfl ?_
  refine wt_putF (i := 0) hp rfl dX3_init_28 ffX3_24 rfl rfl rfl (by decide) (Nat.le_of_ble_eq_true rfl) ?_
  refine wt_nrm (L2 := [some (vR n0), some (vI 30), some (vI 30)]) (T2 := [(3, 4, [some (n0 + 1), some (n0 + 2), some (n0 + 3), none]), (14, 30, []), (14, 30, []), (14, 30, [])]) (cl2 := 3) (sl2 := 90) rfl rfl rfl rfl ?_
  refine wp_return dX3_init_31 rfl (by decide) ⟨rfl, rfl, rfl⟩
def C3_16 (n : Nat) : List SC := [(3, 4, [some (n + 1), some (n + 2), some (n + 3), none]), (14, 16, []), (14, 16, []), (14, 16, [])]
theorem C3_16_len (n : Nat) : (C3_16 n).length = 4 := rfl
set_option maxRecDepth 100000 in
set_option maxHeartbeats 4000000 in
theorem ic_C3_16 {K : KK} (hE : kE K = true) (hZ : ∀ U H, kZ K U H → OKZ U) (d : Nat) : IC K (d + 2) mX3_init 3 48 3 4 [vI 16] C3_16 (fun _ V => V) := by
  intro pre n0 V hp hz
  refine Mt.of2 (L := enL mX3_init.2.2.1 (vR n0 :: [vI 16])) rfl rfl rfl ?_
  refine wp_aload_n dX3_init_0 rfl rfl ?_
  refine wp_objInit dX3_init_1 lX3_3 (by omega) (Nat.le_of_ble_eq_true rfl) ?_
  refine wp_iload_n dX3_init_4 rfl rfl ?_
  refine wp_iconst dX3_init_5 (by decide) ?_
  refine wp_mmax dX3_init_6 lX3_9 (by omega) (Nat.le_of_ble_eq_true rfl) (by decide) ?_
  rw [show max (16 : Int) 1 = 16 from by decide]
  refine wp_istore_n dX3_init_9 rfl (by decide) rfl ?_
  refine wp_aload_n dX3_init_10 rfl rfl ?_
  refine wp_iload_n dX3_init_11 rfl rfl ?_
  refine wt_newa (c := 14) (t := 1) hp rfl (by decide) dX3_init_12 nwa_int hE (by decide) ((hz).mono (by omega)) (by decide) ?_
  refine wt_nrm (L2 := [some (vR n0), some (vI 16), some (vI 16)]) (T2 := [(3, 4, [none, none, none, none]), (14, 16, [])]) (cl2 := 1) (sl2 := 16) rfl rfl rfl rfl ?_
  refine wt_putF (i := 0) hp rfl dX3_init_14 ffX3_15 rfl rfl rfl (by decide) (Nat.le_of_ble_eq_true rfl) ?_
  refine wt_nrm (L2 := [some (vR n0), some (vI 16), some (vI 16)]) (T2 := [(3, 4, [some (n0 + 1), none, none, none]), (14, 16, [])]) (cl2 := 1) (sl2 := 16) rfl rfl rfl rfl ?_
  refine wp_aload_n dX3_init_17 rfl rfl ?_
  refine wp_iload_n dX3_init_18 rfl rfl ?_
  refine wt_newa (c := 14) (t := 2) hp rfl (by decide) dX3_init_19 nwa_int hE (by decide) ((hz).mono (by omega)) (by decide) ?_
  refine wt_nrm (L2 := [some (vR n0), some (vI 16), some (vI 16)]) (T2 := [(3, 4, [some (n0 + 1), none, none, none]), (14, 16, []), (14, 16, [])]) (cl2 := 2) (sl2 := 32) rfl rfl rfl rfl ?_
  refine wt_putF (i := 0) hp rfl dX3_init_21 ffX3_21 rfl rfl rfl (by decide) (Nat.le_of_ble_eq_true rfl) ?_
  refine wt_nrm (L2 := [some (vR n0), some (vI 16), some (vI 16)]) (T2 := [(3, 4, [some (n0 + 1), some (n0 + 2), none, none]), (14, 16, []), (14, 16, [])]) (cl2 := 2) (sl2 := 32) rfl rfl rfl rfl ?_
  refine wp_aload_n dX3_init_24 rfl rfl ?_
  refine wp_iload_n dX3_init_25 rfl rfl ?_
  refine wt_newa (c := 14) (t := 3) hp rfl (by decide) dX3_init_26 nwa_int hE (by decide) ((hz).mono (by omega)) (by decide) ?_
  refine wt_nrm (L2 := [some (vR n0), some (vI 16), some (vI 16)]) (T2 := [(3, 4, [some (n0 + 1), some (n0 + 2), none, none]), (14, 16, []), (14, 16, []), (14, 16, [])]) (cl2 := 3) (sl2 := 48) rfl rfl rfl rfl ?_
  refine wt_putF (i := 0) hp rfl dX3_init_28 ffX3_24 rfl rfl rfl (by decide) (Nat.le_of_ble_eq_true rfl) ?_
  refine wt_nrm (L2 := [some (vR n0), some (vI 16), some (vI 16)]) (T2 := [(3, 4, [some (n0 + 1), some (n0 + 2), some (n0 + 3), none]), (14, 16, []), (14, 16, []), (14, 16, [])]) (cl2 := 3) (sl2 := 48) rfl rfl rfl rfl ?_
  refine wp_return dX3_init_31 rfl (by decide) ⟨rfl, rfl, rfl⟩
def C4 (n : Nat) : List SC := [(4, 3, [some (n + 1), some (n + 2), none]), (14, 1000, []), (14, 32, [])]
theorem C4_len (n : Nat) : (C4 n).length = 3 := rfl
def C4_mem (n0 : Nat) (V : Mem) : Mem := (upm (upm V (n0 + 1) 0 (-143)) n0 2 1)
set_option maxRecDepth 100000 in
set_option maxHeartbeats 4000000 in
theorem ic_C4 {K : KK} (hE : kE K = true) (hZ : ∀ U H, kZ K U H → OKZ U) (d : Nat) : IC K (d + 1) mX4_init 2 1032 4 3 [] C4 C4_mem := by
  intro pre n0 V hp hz
  refine Mt.of2 (L := enL mX4_init.2.2.1 (vR n0 :: [])) rfl rfl rfl ?_
  refine wp_aload_n dX4_init_0 rfl rfl ?_
  refine wp_objInit dX4_init_1 lX4_3 (by omega) (Nat.le_of_ble_eq_true rfl) ?_
  refine wp_aload_n dX4_init_4 rfl rfl ?_
  refine wp_sipush dX4_init_5 (by decide) ?_
  refine wt_newa (c := 14) (t := 1) hp rfl (by decide) dX4_init_8 nwa_int hE (by decide) ((hz).mono (by omega)) (by decide) ?_
  refine wt_nrm (L2 := [some (vR n0)]) (T2 := [(4, 3, [none, none, none]), (14, 1000, [])]) (cl2 := 1) (sl2 := 1000) rfl rfl rfl rfl ?_
  refine wt_putF (i := 0) hp rfl dX4_init_10 ffX4_9 rfl rfl rfl (by decide) (Nat.le_of_ble_eq_true rfl) ?_
  refine wt_nrm (L2 := [some (vR n0)]) (T2 := [(4, 3, [some (n0 + 1), none, none]), (14, 1000, [])]) (cl2 := 1) (sl2 := 1000) rfl rfl rfl rfl ?_
  refine wp_aload_n dX4_init_13 rfl rfl ?_
  refine wp_bipush dX4_init_14 (by decide) ?_
  refine wt_newa (c := 14) (t := 2) hp rfl (by decide) dX4_init_16 nwa_int hE (by decide) ((hz).mono (by omega)) (by decide) ?_
  refine wt_nrm (L2 := [some (vR n0)]) (T2 := [(4, 3, [some (n0 + 1), none, none]), (14, 1000, []), (14, 32, [])]) (cl2 := 2) (sl2 := 1032) rfl rfl rfl rfl ?_
  refine wt_putF (i := 0) hp rfl dX4_init_18 ffX4_15 rfl rfl rfl (by decide) (Nat.le_of_ble_eq_true rfl) ?_
  refine wt_nrm (L2 := [some (vR n0)]) (T2 := [(4, 3, [some (n0 + 1), some (n0 + 2), none]), (14, 1000, []), (14, 32, [])]) (cl2 := 2) (sl2 := 1032) rfl rfl rfl rfl ?_
  refine wp_aload_n dX4_init_21 rfl rfl ?_
  refine wp_getR (b := n0 + 1) dX4_init_22 fX4_9 rfl (ap_at (i := 0) hp rfl) (by decide) rfl ?_
  refine wp_iconst dX4_init_25 (by decide) ?_
  refine wp_sipush dX4_init_26 (by decide) ?_
  refine wp_iast dX4_init_29 (ap_at (i := 1) hp rfl) (by decide) ?_
  refine wp_aload_n dX4_init_30 rfl rfl ?_
  refine wp_iconst dX4_init_31 (by decide) ?_
  refine wp_putI dX4_init_32 fwX4_18 rfl (ap_at (i := 0) hp rfl) (by decide) ?_
  refine wp_return dX4_init_35 rfl (by decide) ⟨rfl, rfl, rfl⟩
theorem z_C4 {V : Mem} {n : Nat} (h : ZV V (n + 3)) : ZV (C4_mem n V) (n + 3) := ((h.up (by omega)).up (by omega))
def C10 (n : Nat) : List SC := [(10, 3, [some (n + 1), some (n + 23), none]), (20, 21, [some (n + 2), some (n + 3), some (n + 4), some (n + 5), some (n + 6), some (n + 7), some (n + 8), some (n + 9), some (n + 10), some (n + 11), some (n + 12), some (n + 13), some (n + 14), some (n + 15), some (n + 16), some (n + 17), some (n + 18), some (n + 19), some (n + 20), some (n + 21), some (n + 22)]), (14, 21, []), (14, 21, []), (14, 21, []), (14, 21, []), (14, 21, []), (14, 21, []), (14, 21, []), (14, 21, []), (14, 21, []), (14, 21, []), (14, 21, []), (14, 21, []), (14, 21, []), (14, 21, []), (14, 21, []), (14, 21, []), (14, 21, []), (14, 21, []), (14, 21, []), (14, 21, []), (14, 21, []), (14, 21, [])]
theorem C10_len (n : Nat) : (C10 n).length = 24 := rfl
set_option maxRecDepth 100000 in
set_option maxHeartbeats 4000000 in
theorem ic_C10 {K : KK} (hE : kE K = true) (hZ : ∀ U H, kZ K U H → OKZ U) (d : Nat) : IC K (d + 1) mX10_init 23 483 10 3 [] C10 (fun _ V => V) := by
  intro pre n0 V hp hz
  refine Mt.of2 (L := enL mX10_init.2.2.1 (vR n0 :: [])) rfl rfl rfl ?_
  refine wp_aload_n dX10_init_0 rfl rfl ?_
  refine wp_objInit dX10_init_1 lX10_3 (by omega) (Nat.le_of_ble_eq_true rfl) ?_
  refine wp_aload_n dX10_init_4 rfl rfl ?_
  refine wp_bipush dX10_init_5 (by decide) ?_
  refine wp_bipush dX10_init_7 (by decide) ?_
  refine wt_multi (n := 21) (k := 21) (t := 1) hp rfl dX10_init_9 nwc_X10_9 nwa_int (fun U H h => (hZ U H h).2.2.2) hE (by decide) (by decide) ((hz).mono (by omega)) ?_
  refine wt_nrm (L2 := [some (vR n0)]) (T2 := [(10, 3, [none, none, none]), (20, 21, [some (n0 + 2), some (n0 + 3), some (n0 + 4), some (n0 + 5), some (n0 + 6), some (n0 + 7), some (n0 + 8), some (n0 + 9), some (n0 + 10), some (n0 + 11), some (n0 + 12), some (n0 + 13), some (n0 + 14), some (n0 + 15), some (n0 + 16), some (n0 + 17), some (n0 + 18), some (n0 + 19), some (n0 + 20), some (n0 + 21), some (n0 + 22)]), (14, 21, []), (14, 21, []), (14, 21, []), (14, 21, []), (14, 21, []), (14, 21, []), (14, 21, []), (14, 21, []), (14, 21, []), (14, 21, []), (14, 21, []), (14, 21, []), (14, 21, []), (14, 21, []), (14, 21, []), (14, 21, []), (14, 21, []), (14, 21, []), (14, 21, []), (14, 21, []), (14, 21, [])]) (cl2 := 22) (sl2 := 462) rfl rfl rfl rfl ?_
  refine wt_putF (i := 0) hp rfl dX10_init_13 ffX10_11 rfl rfl rfl (by decide) (Nat.le_of_ble_eq_true rfl) ?_
  refine wt_nrm (L2 := [some (vR n0)]) (T2 := [(10, 3, [some (n0 + 1), none, none]), (20, 21, [some (n0 + 2), some (n0 + 3), some (n0 + 4), some (n0 + 5), some (n0 + 6), some (n0 + 7), some (n0 + 8), some (n0 + 9), some (n0 + 10), some (n0 + 11), some (n0 + 12), some (n0 + 13), some (n0 + 14), some (n0 + 15), some (n0 + 16), some (n0 + 17), some (n0 + 18), some (n0 + 19), some (n0 + 20), some (n0 + 21), some (n0 + 22)]), (14, 21, []), (14, 21, []), (14, 21, []), (14, 21, []), (14, 21, []), (14, 21, []), (14, 21, []), (14, 21, []), (14, 21, []), (14, 21, []), (14, 21, []), (14, 21, []), (14, 21, []), (14, 21, []), (14, 21, []), (14, 21, []), (14, 21, []), (14, 21, []), (14, 21, []), (14, 21, []), (14, 21, [])]) (cl2 := 22) (sl2 := 462) rfl rfl rfl rfl ?_
  refine wp_aload_n dX10_init_16 rfl rfl ?_
  refine wp_bipush dX10_init_17 (by decide) ?_
  refine wt_newa (c := 14) (t := 23) hp rfl (by decide) dX10_init_19 nwa_int hE (by decide) ((hz).mono (by omega)) (by decide) ?_
  refine wt_nrm (L2 := [some (vR n0)]) (T2 := [(10, 3, [some (n0 + 1), none, none]), (20, 21, [some (n0 + 2), some (n0 + 3), some (n0 + 4), some (n0 + 5), some (n0 + 6), some (n0 + 7), some (n0 + 8), some (n0 + 9), some (n0 + 10), some (n0 + 11), some (n0 + 12), some (n0 + 13), some (n0 + 14), some (n0 + 15), some (n0 + 16), some (n0 + 17), some (n0 + 18), some (n0 + 19), some (n0 + 20), some (n0 + 21), some (n0 + 22)]), (14, 21, []), (14, 21, []), (14, 21, []), (14, 21, []), (14, 21, []), (14, 21, []), (14, 21, []), (14, 21, []), (14, 21, []), (14, 21, []), (14, 21, []), (14, 21, []), (14, 21, []), (14, 21, []), (14, 21, []), (14, 21, []), (14, 21, []), (14, 21, []), (14, 21, []), (14, 21, []), (14, 21, []), (14, 21, [])]) (cl2 := 23) (sl2 := 483) rfl rfl rfl rfl ?_
  refine wt_putF (i := 0) hp rfl dX10_init_21 ffX10_16 rfl rfl rfl (by decide) (Nat.le_of_ble_eq_true rfl) ?_
  refine wt_nrm (L2 := [some (vR n0)]) (T2 := [(10, 3, [some (n0 + 1), some (n0 + 23), none]), (20, 21, [some (n0 + 2), some (n0 + 3), some (n0 + 4), some (n0 + 5), some (n0 + 6), some (n0 + 7), some (n0 + 8), some (n0 + 9), some (n0 + 10), some (n0 + 11), some (n0 + 12), some (n0 + 13), some (n0 + 14), some (n0 + 15), some (n0 + 16), some (n0 + 17), some (n0 + 18), some (n0 + 19), some (n0 + 20), some (n0 + 21), some (n0 + 22)]), (14, 21, []), (14, 21, []), (14, 21, []), (14, 21, []), (14, 21, []), (14, 21, []), (14, 21, []), (14, 21, []), (14, 21, []), (14, 21, []), (14, 21, []), (14, 21, []), (14, 21, []), (14, 21, []), (14, 21, []), (14, 21, []), (14, 21, []), (14, 21, []), (14, 21, []), (14, 21, []), (14, 21, []), (14, 21, [])]) (cl2 := 23) (sl2 := 483) rfl rfl rfl rfl ?_
  refine wp_return dX10_init_24 rfl (by decide) ⟨rfl, rfl, rfl⟩
def C8 (n : Nat) : List SC := [(8, 3, [some (n + 1), some (n + 22), some (n + 23)]), (20, 20, [some (n + 2), some (n + 3), some (n + 4), some (n + 5), some (n + 6), some (n + 7), some (n + 8), some (n + 9), some (n + 10), some (n + 11), some (n + 12), some (n + 13), some (n + 14), some (n + 15), some (n + 16), some (n + 17), some (n + 18), some (n + 19), some (n + 20), some (n + 21)]), (14, 20, []), (14, 20, []), (14, 20, []), (14, 20, []), (14, 20, []), (14, 20, []), (14, 20, []), (14, 20, []), (14, 20, []), (14, 20, []), (14, 20, []), (14, 20, []), (14, 20, []), (14, 20, []), (14, 20, []), (14, 20, []), (14, 20, []), (14, 20, []), (14, 20, []), (14, 20, []), (14, 20, []), (14, 20, [])]
theorem C8_len (n : Nat) : (C8 n).length = 24 := rfl
set_option maxRecDepth 100000 in
set_option maxHeartbeats 4000000 in
theorem ic_C8 {K : KK} (hE : kE K = true) (hZ : ∀ U H, kZ K U H → OKZ U) (d : Nat) : IC K (d + 1) mX8_init 23 460 8 3 [] C8 (fun _ V => V) := by
  intro pre n0 V hp hz
  refine Mt.of2 (L := enL mX8_init.2.2.1 (vR n0 :: [])) rfl rfl rfl ?_
  refine wp_aload_n dX8_init_0 rfl rfl ?_
  refine wp_objInit dX8_init_1 lX8_3 (by omega) (Nat.le_of_ble_eq_true rfl) ?_
  refine wp_aload_n dX8_init_4 rfl rfl ?_
  refine wp_bipush dX8_init_5 (by decide) ?_
  refine wp_bipush dX8_init_7 (by decide) ?_
  refine wt_multi (n := 20) (k := 20) (t := 1) hp rfl dX8_init_9 nwc_X8_9 nwa_int (fun U H h => (hZ U H h).2.2.2) hE (by decide) (by decide) ((hz).mono (by omega)) ?_
  refine wt_nrm (L2 := [some (vR n0)]) (T2 := [(8, 3, [none, none, none]), (20, 20, [some (n0 + 2), some (n0 + 3), some (n0 + 4), some (n0 + 5), some (n0 + 6), some (n0 + 7), some (n0 + 8), some (n0 + 9), some (n0 + 10), some (n0 + 11), some (n0 + 12), some (n0 + 13), some (n0 + 14), some (n0 + 15), some (n0 + 16), some (n0 + 17), some (n0 + 18), some (n0 + 19), some (n0 + 20), some (n0 + 21)]), (14, 20, []), (14, 20, []), (14, 20, []), (14, 20, []), (14, 20, []), (14, 20, []), (14, 20, []), (14, 20, []), (14, 20, []), (14, 20, []), (14, 20, []), (14, 20, []), (14, 20, []), (14, 20, []), (14, 20, []), (14, 20, []), (14, 20, []), (14, 20, []), (14, 20, []), (14, 20, [])]) (cl2 := 21) (sl2 := 420) rfl rfl rfl rfl ?_
  refine wt_putF (i := 0) hp rfl dX8_init_13 ffX8_11 rfl rfl rfl (by decide) (Nat.le_of_ble_eq_true rfl) ?_
  refine wt_nrm (L2 := [some (vR n0)]) (T2 := [(8, 3, [some (n0 + 1), none, none]), (20, 20, [some (n0 + 2), some (n0 + 3), some (n0 + 4), some (n0 + 5), some (n0 + 6), some (n0 + 7), some (n0 + 8), some (n0 + 9), some (n0 + 10), some (n0 + 11), some (n0 + 12), some (n0 + 13), some (n0 + 14), some (n0 + 15), some (n0 + 16), some (n0 + 17), some (n0 + 18), some (n0 + 19), some (n0 + 20), some (n0 + 21)]), (14, 20, []), (14, 20, []), (14, 20, []), (14, 20, []), (14, 20, []), (14, 20, []), (14, 20, []), (14, 20, []), (14, 20, []), (14, 20, []), (14, 20, []), (14, 20, []), (14, 20, []), (14, 20, []), (14, 20, []), (14, 20, []), (14, 20, []), (14, 20, []), (14, 20, []), (14, 20, [])]) (cl2 := 21) (sl2 := 420) rfl rfl rfl rfl ?_
  refine wp_aload_n dX8_init_16 rfl rfl ?_
  refine wp_bipush dX8_init_17 (by decide) ?_
  refine wt_newa (c := 14) (t := 22) hp rfl (by decide) dX8_init_19 nwa_int hE (by decide) ((hz).mono (by omega)) (by decide) ?_
  refine wt_nrm (L2 := [some (vR n0)]) (T2 := [(8, 3, [some (n0 + 1), none, none]), (20, 20, [some (n0 + 2), some (n0 + 3), some (n0 + 4), some (n0 + 5), some (n0 + 6), some (n0 + 7), some (n0 + 8), some (n0 + 9), some (n0 + 10), some (n0 + 11), some (n0 + 12), some (n0 + 13), some (n0 + 14), some (n0 + 15), some (n0 + 16), some (n0 + 17), some (n0 + 18), some (n0 + 19), some (n0 + 20), some (n0 + 21)]), (14, 20, []), (14, 20, []), (14, 20, []), (14, 20, []), (14, 20, []), (14, 20, []), (14, 20, []), (14, 20, []), (14, 20, []), (14, 20, []), (14, 20, []), (14, 20, []), (14, 20, []), (14, 20, []), (14, 20, []), (14, 20, []), (14, 20, []), (14, 20, []), (14, 20, []), (14, 20, []), (14, 20, [])]) (cl2 := 22) (sl2 := 440) rfl rfl rfl rfl ?_
  refine wt_putF (i := 0) hp rfl dX8_init_21 ffX8_16 rfl rfl rfl (by decide) (Nat.le_of_ble_eq_true rfl) ?_
  refine wt_nrm (L2 := [some (vR n0)]) (T2 := [(8, 3, [some (n0 + 1), some (n0 + 22), none]), (20, 20, [some (n0 + 2), some (n0 + 3), some (n0 + 4), some (n0 + 5), some (n0 + 6), some (n0 + 7), some (n0 + 8), some (n0 + 9), some (n0 + 10), some (n0 + 11), some (n0 + 12), some (n0 + 13), some (n0 + 14), some (n0 + 15), some (n0 + 16), some (n0 + 17), some (n0 + 18), some (n0 + 19), some (n0 + 20), some (n0 + 21)]), (14, 20, []), (14, 20, []), (14, 20, []), (14, 20, []), (14, 20, []), (14, 20, []), (14, 20, []), (14, 20, []), (14, 20, []), (14, 20, []), (14, 20, []), (14, 20, []), (14, 20, []), (14, 20, []), (14, 20, []), (14, 20, []), (14, 20, []), (14, 20, []), (14, 20, []), (14, 20, []), (14, 20, [])]) (cl2 := 22) (sl2 := 440) rfl rfl rfl rfl ?_
  refine wp_aload_n dX8_init_24 rfl rfl ?_
  refine wp_bipush dX8_init_25 (by decide) ?_
  refine wt_newa (c := 14) (t := 23) hp rfl (by decide) dX8_init_27 nwa_int hE (by decide) ((hz).mono (by omega)) (by decide) ?_
  refine wt_nrm (L2 := [some (vR n0)]) (T2 := [(8, 3, [some (n0 + 1), some (n0 + 22), none]), (20, 20, [some (n0 + 2), some (n0 + 3), some (n0 + 4), some (n0 + 5), some (n0 + 6), some (n0 + 7), some (n0 + 8), some (n0 + 9), some (n0 + 10), some (n0 + 11), some (n0 + 12), some (n0 + 13), some (n0 + 14), some (n0 + 15), some (n0 + 16), some (n0 + 17), some (n0 + 18), some (n0 + 19), some (n0 + 20), some (n0 + 21)]), (14, 20, []), (14, 20, []), (14, 20, []), (14, 20, []), (14, 20, []), (14, 20, []), (14, 20, []), (14, 20, []), (14, 20, []), (14, 20, []), (14, 20, []), (14, 20, []), (14, 20, []), (14, 20, []), (14, 20, []), (14, 20, []), (14, 20, []), (14, 20, []), (14, 20, []), (14, 20, []), (14, 20, []), (14, 20, [])]) (cl2 := 23) (sl2 := 460) rfl rfl rfl rfl ?_
  refine wt_putF (i := 0) hp rfl dX8_init_29 ffX8_20 rfl rfl rfl (by decide) (Nat.le_of_ble_eq_true rfl) ?_
  refine wt_nrm (L2 := [some (vR n0)]) (T2 := [(8, 3, [some (n0 + 1), some (n0 + 22), some (n0 + 23)]), (20, 20, [some (n0 + 2), some (n0 + 3), some (n0 + 4), some (n0 + 5), some (n0 + 6), some (n0 + 7), some (n0 + 8), some (n0 + 9), some (n0 + 10), some (n0 + 11), some (n0 + 12), some (n0 + 13), some (n0 + 14), some (n0 + 15), some (n0 + 16), some (n0 + 17), some (n0 + 18), some (n0 + 19), some (n0 + 20), some (n0 + 21)]), (14, 20, []), (14, 20, []), (14, 20, []), (14, 20, []), (14, 20, []), (14, 20, []), (14, 20, []), (14, 20, []), (14, 20, []), (14, 20, []), (14, 20, []), (14, 20, []), (14, 20, []), (14, 20, []), (14, 20, []), (14, 20, []), (14, 20, []), (14, 20, []), (14, 20, []), (14, 20, []), (14, 20, []), (14, 20, [])]) (cl2 := 23) (sl2 := 460) rfl rfl rfl rfl ?_
  refine wp_return dX8_init_32 rfl (by decide) ⟨rfl, rfl, rfl⟩
def C7 (n : Nat) : List SC := [(7, 8, [some (n + 1), some (n + 2), some (n + 3), some (n + 4), some (n + 5), none, none, none]), (18, 4, [some (n + 6), some (n + 8), some (n + 10), some (n + 12)]), (17, 8, [some (n + 14), some (n + 16), some (n + 18), some (n + 20), some (n + 22), some (n + 24), some (n + 26), some (n + 28)]), (14, 8, []), (14, 8, []), (16, 8, []), (6, 4, [some (n + 7), none, none, none]), (14, 20, []), (6, 4, [some (n + 9), none, none, none]), (14, 20, []), (6, 4, [some (n + 11), none, none, none]), (14, 20, []), (6, 4, [some (n + 13), none, none, none]), (14, 20, []), (0, 4, [some (n + 15), none, none, none]), (14, 10, []), (0, 4, [some (n + 17), none, none, none]), (14, 10, []), (0, 4, [some (n + 19), none, none, none]), (14, 10, []), (0, 4, [some (n + 21), none, none, none]), (14, 10, []), (0, 4, [some (n + 23), none, none, none]), (14, 10, []), (0, 4, [some (n + 25), none, none, none]), (14, 10, []), (0, 4, [some (n + 27), none, none, none]), (14, 10, []), (0, 4, [some (n + 29), none, none, none]), (14, 10, [])]
theorem C7_len (n : Nat) : (C7 n).length = 30 := rfl
set_option maxRecDepth 100000 in
set_option maxHeartbeats 4000000 in
theorem ic_C7 {K : KK} (hE : kE K = true) (hZ : ∀ U H, kZ K U H → OKZ U) (d : Nat) : IC K (d + 2) mX7_init 29 244 7 8 [] C7 (fun _ V => V) := by
  intro pre n0 V hp hz
  refine Mt.of2 (L := enL mX7_init.2.2.1 (vR n0 :: [])) rfl rfl rfl ?_
  refine wp_aload_n dX7_init_0 rfl rfl ?_
  refine wp_objInit dX7_init_1 lX7_3 (by omega) (Nat.le_of_ble_eq_true rfl) ?_
  refine wp_aload_n dX7_init_4 rfl rfl ?_
  refine wp_iconst dX7_init_5 (by decide) ?_
  refine wt_anew (c := 18) (t := 1) hp rfl (by decide) dX7_init_6 nwc_X7_9 (fun U H h => (hZ U H h).2.1) hE (by decide) ((hz).mono (by omega)) (by decide) ?_
  refine wt_nrm (L2 := [some (vR n0), none]) (T2 := [(7, 8, [none, none, none, none, none, none, none, none]), (18, 4, [none, none, none, none])]) (cl2 := 1) (sl2 := 4) rfl rfl rfl rfl ?_
  refine wt_putF (i := 0) hp rfl dX7_init_9 ffX7_11 rfl rfl rfl (by decide) (Nat.le_of_ble_eq_true rfl) ?_
  refine wt_nrm (L2 := [some (vR n0), none]) (T2 := [(7, 8, [some (n0 + 1), none, none, none, none, none, none, none]), (18, 4, [none, none, none, none])]) (cl2 := 1) (sl2 := 4) rfl rfl rfl rfl ?_
  refine wp_aload_n dX7_init_12 rfl rfl ?_
  refine wp_bipush dX7_init_13 (by decide) ?_
  refine wt_anew (c := 17) (t := 2) hp rfl (by decide) dX7_init_15 nwc_X7_17 (fun U H h => (hZ U H h).1) hE (by decide) ((hz).mono (by omega)) (by decide) ?_
  refine wt_nrm (L2 := [some (vR n0), none]) (T2 := [(7, 8, [some (n0 + 1), none, none, none, none, none, none, none]), (18, 4, [none, none, none, none]), (17, 8, [none, none, none, none, none, none, none, none])]) (cl2 := 2) (sl2 := 12) rfl rfl rfl rfl ?_
  refine wt_putF (i := 0) hp rfl dX7_init_18 ffX7_19 rfl rfl rfl (by decide) (Nat.le_of_ble_eq_true rfl) ?_
  refine wt_nrm (L2 := [some (vR n0), none]) (T2 := [(7, 8, [some (n0 + 1), some (n0 + 2), none, none, none, none, none, none]), (18, 4, [none, none, none, none]), (17, 8, [none, none, none, none, none, none, none, none])]) (cl2 := 2) (sl2 := 12) rfl rfl rfl rfl ?_
  refine wp_aload_n dX7_init_21 rfl rfl ?_
  refine wp_bipush dX7_init_22 (by decide) ?_
  refine wt_newa (c := 14) (t := 3) hp rfl (by decide) dX7_init_24 nwa_int hE (by decide) ((hz).mono (by omega)) (by decide) ?_
  refine wt_nrm (L2 := [some (vR n0), none]) (T2 := [(7, 8, [some (n0 + 1), some (n0 + 2), none, none, none, none, none, none]), (18, 4, [none, none, none, none]), (17, 8, [none, none, none, none, none, none, none, none]), (14, 8, [])]) (cl2 := 3) (sl2 := 20) rfl rfl rfl rfl ?_
  refine wt_putF (i := 0) hp rfl dX7_init_26 ffX7_23 rfl rfl rfl (by decide) (Nat.le_of_ble_eq_true rfl) ?_
  refine wt_nrm (L2 := [some (vR n0), none]) (T2 := [(7, 8, [some (n0 + 1), some (n0 + 2), some (n0 + 3), none, none, none, none, none]), (18, 4, [none, none, none, none]), (17, 8, [none, none, none, none, none, none, none, none]), (14, 8, [])]) (cl2 := 3) (sl2 := 20) rfl rfl rfl rfl ?_
  refine wp_aload_n dX7_init_29 rfl rfl ?_
  refine wp_bipush dX7_init_30 (by decide) ?_
  refine wt_newa (c := 14) (t := 4) hp rfl (by decide) dX7_init_32 nwa_int hE (by decide) ((hz).mono (by omega)) (by decide) ?_
  refine wt_nrm (L2 := [some (vR n0), none]) (T2 := [(7, 8, [some (n0 + 1), some (n0 + 2), some (n0 + 3), none, none, none, none, none]), (18, 4, [none, none, none, none]), (17, 8, [none, none, none, none, none, none, none, none]), (14, 8, []), (14, 8, [])]) (cl2 := 4) (sl2 := 28) rfl rfl rfl rfl ?_
  refine wt_putF (i := 0) hp rfl dX7_init_34 ffX7_27 rfl rfl rfl (by decide) (Nat.le_of_ble_eq_true rfl) ?_
  refine wt_nrm (L2 := [some (vR n0), none]) (T2 := [(7, 8, [some (n0 + 1), some (n0 + 2), some (n0 + 3), some (n0 + 4), none, none, none, none]), (18, 4, [none, none, none, none]), (17, 8, [none, none, none, none, none, none, none, none]), (14, 8, []), (14, 8, [])]) (cl2 := 4) (sl2 := 28) rfl rfl rfl rfl ?_
  refine wp_aload_n dX7_init_37 rfl rfl ?_
  refine wp_bipush dX7_init_38 (by decide) ?_
  refine wt_newa (c := 16) (t := 5) hp rfl (by decide) dX7_init_40 nwa_boolean hE (by decide) ((hz).mono (by omega)) (by decide) ?_
  refine wt_nrm (L2 := [some (vR n0), none]) (T2 := [(7, 8, [some (n0 + 1), some (n0 + 2), some (n0 + 3), some (n0 + 4), none, none, none, none]), (18, 4, [none, none, none, none]), (17, 8, [none, none, none, none, none, none, none, none]), (14, 8, []), (14, 8, []), (16, 8, [])]) (cl2 := 5) (sl2 := 36) rfl rfl rfl rfl ?_
  refine wt_putF (i := 0) hp rfl dX7_init_42 ffX7_30 rfl rfl rfl (by decide) (Nat.le_of_ble_eq_true rfl) ?_
  refine wt_nrm (L2 := [some (vR n0), none]) (T2 := [(7, 8, [some (n0 + 1), some (n0 + 2), some (n0 + 3), some (n0 + 4), some (n0 + 5), none, none, none]), (18, 4, [none, none, none, none]), (17, 8, [none, none, none, none, none, none, none, none]), (14, 8, []), (14, 8, []), (16, 8, [])]) (cl2 := 5) (sl2 := 36) rfl rfl rfl rfl ?_
  refine wp_iconst dX7_init_45 (by decide) ?_
  refine wp_istore_n dX7_init_46 rfl (by decide) rfl ?_
  refine wp_iload_n dX7_init_47 rfl rfl ?_
  refine wp_iconst dX7_init_48 (by decide) ?_
  refine wp_icmp_ge (tgt := 71) dX7_init_49 rfl (fun c => absurd c (by decide)) (fun _ => ?_)
  refine wp_aload_n dX7_init_52 rfl rfl ?_
  refine wp_getR (b := n0 + 1) dX7_init_53 fX7_11 rfl (ap_at (i := 0) hp rfl) (by decide) rfl ?_
  refine wp_iload_n dX7_init_56 rfl rfl ?_
  refine wt_new (t := 6) hp rfl dX7_init_57 nw_X7_9 hE ((hz).mono (by omega)) (by decide) ?_
  refine wp_dup dX7_init_60 rfl ?_
  refine wt_init (S := [vR (n0 + 6), vI 0, vR (n0 + 1)]) (as := []) (t := 6) hp rfl dX7_init_61 lX7_34 (ic_C6 hE hZ (d + 0)) (by omega) rfl ((hz).mono (by omega)) rfl (Nat.le_of_ble_eq_true rfl) (by decide) ?_
  refine wt_nrm (L2 := [some (vR n0), some (vI 0)]) (T2 := [(7, 8, [some (n0 + 1), some (n0 + 2), some (n0 + 3), some (n0 + 4), some (n0 + 5), none, none, none]), (18, 4, [none, none, none, none]), (17, 8, [none, none, none, none, none, none, none, none]), (14, 8, []), (14, 8, []), (16, 8, []), (6, 4, [some (n0 + 7), none, none, none]), (14, 20, [])]) (cl2 := 7) (sl2 := 60) rfl rfl rfl rfl ?_
  refine wt_aast (c := 18) (i := 1) (j := 6) hp rfl rfl (by decide) dX7_init_64 rfl rfl (by decide) rfl ?_
  refine wt_nrm (L2 := [some (vR n0), some (vI 0)]) (T2 := [(7, 8, [some (n0 + 1), some (n0 + 2), some (n0 + 3), some (n0 + 4), some (n0 + 5), none, none, none]), (18, 4, [some (n0 + 6), none, none, none]), (17, 8, [none, none, none, none, none, none, none, none]), (14, 8, []), (14, 8, []), (16, 8, []), (6, 4, [some (n0 + 7), none, none, none]), (14, 20, [])]) (cl2 := 7) (sl2 := 60) rfl rfl rfl rfl ?_
  refine wt_iinc (z := 1) dX7_init_65 rfl rfl (by decide) ?_
  refine wp_goto (tgt := 47) dX7_init_68 rfl ?_
  refine wp_iload_n dX7_init_47 rfl rfl ?_
  refine wp_iconst dX7_init_48 (by decide) ?_
  refine wp_icmp_ge (tgt := 71) dX7_init_49 rfl (fun c => absurd c (by decide)) (fun _ => ?_)
  refine wp_aload_n dX7_init_52 rfl rfl ?_
  refine wp_getR (b := n0 + 1) dX7_init_53 fX7_11 rfl (ap_at (i := 0) hp rfl) (by decide) rfl ?_
  refine wp_iload_n dX7_init_56 rfl rfl ?_
  refine wt_new (t := 8) hp rfl dX7_init_57 nw_X7_9 hE ((hz).mono (by omega)) (by decide) ?_
  refine wp_dup dX7_init_60 rfl ?_
  refine wt_init (S := [vR (n0 + 8), vI 1, vR (n0 + 1)]) (as := []) (t := 8) hp rfl dX7_init_61 lX7_34 (ic_C6 hE hZ (d + 0)) (by omega) rfl ((hz).mono (by omega)) rfl (Nat.le_of_ble_eq_true rfl) (by decide) ?_
  refine wt_nrm (L2 := [some (vR n0), some (vI 1)]) (T2 := [(7, 8, [some (n0 + 1), some (n0 + 2), some (n0 + 3), some (n0 + 4), some (n0 + 5), none, none, none]), (18, 4, [some (n0 + 6), none, none, none]), (17, 8, [none, none, none, none, none, none, none, none]), (14, 8, []), (14, 8, []), (16, 8, []), (6, 4, [some (n0 + 7), none, none, none]), (14, 20, []), (6, 4, [some (n0 + 9), none, none, none]), (14, 20, [])]) (cl2 := 9) (sl2 := 84) rfl rfl rfl rfl ?_
  refine wt_aast (c := 18) (i := 1) (j := 8) hp rfl rfl (by decide) dX7_init_64 rfl rfl (by decide) rfl ?_
  refine wt_nrm (L2 := [some (vR n0), some (vI 1)]) (T2 := [(7, 8, [some (n0 + 1), some (n0 + 2), some (n0 + 3), some (n0 + 4), some (n0 + 5), none, none, none]), (18, 4, [some (n0 + 6), some (n0 + 8), none, none]), (17, 8, [none, none, none, none, none, none, none, none]), (14, 8, []), (14, 8, []), (16, 8, []), (6, 4, [some (n0 + 7), none, none, none]), (14, 20, []), (6, 4, [some (n0 + 9), none, none, none]), (14, 20, [])]) (cl2 := 9) (sl2 := 84) rfl rfl rfl rfl ?_
  refine wt_iinc (z := 2) dX7_init_65 rfl rfl (by decide) ?_
  refine wp_goto (tgt := 47) dX7_init_68 rfl ?_
  refine wp_iload_n dX7_init_47 rfl rfl ?_
  refine wp_iconst dX7_init_48 (by decide) ?_
  refine wp_icmp_ge (tgt := 71) dX7_init_49 rfl (fun c => absurd c (by decide)) (fun _ => ?_)
  refine wp_aload_n dX7_init_52 rfl rfl ?_
  refine wp_getR (b := n0 + 1) dX7_init_53 fX7_11 rfl (ap_at (i := 0) hp rfl) (by decide) rfl ?_
  refine wp_iload_n dX7_init_56 rfl rfl ?_
  refine wt_new (t := 10) hp rfl dX7_init_57 nw_X7_9 hE ((hz).mono (by omega)) (by decide) ?_
  refine wp_dup dX7_init_60 rfl ?_
  refine wt_init (S := [vR (n0 + 10), vI 2, vR (n0 + 1)]) (as := []) (t := 10) hp rfl dX7_init_61 lX7_34 (ic_C6 hE hZ (d + 0)) (by omega) rfl ((hz).mono (by omega)) rfl (Nat.le_of_ble_eq_true rfl) (by decide) ?_
  refine wt_nrm (L2 := [some (vR n0), some (vI 2)]) (T2 := [(7, 8, [some (n0 + 1), some (n0 + 2), some (n0 + 3), some (n0 + 4), some (n0 + 5), none, none, none]), (18, 4, [some (n0 + 6), some (n0 + 8), none, none]), (17, 8, [none, none, none, none, none, none, none, none]), (14, 8, []), (14, 8, []), (16, 8, []), (6, 4, [some (n0 + 7), none, none, none]), (14, 20, []), (6, 4, [some (n0 + 9), none, none, none]), (14, 20, []), (6, 4, [some (n0 + 11), none, none, none]), (14, 20, [])]) (cl2 := 11) (sl2 := 108) rfl rfl rfl rfl ?_
  refine wt_aast (c := 18) (i := 1) (j := 10) hp rfl rfl (by decide) dX7_init_64 rfl rfl (by decide) rfl ?_
  refine wt_nrm (L2 := [some (vR n0), some (vI 2)]) (T2 := [(7, 8, [some (n0 + 1), some (n0 + 2), some (n0 + 3), some (n0 + 4), some (n0 + 5), none, none, none]), (18, 4, [some (n0 + 6), some (n0 + 8), some (n0 + 10), none]), (17, 8, [none, none, none, none, none, none, none, none]), (14, 8, []), (14, 8, []), (16, 8, []), (6, 4, [some (n0 + 7), none, none, none]), (14, 20, []), (6, 4, [some (n0 + 9), none, none, none]), (14, 20, []), (6, 4, [some (n0 + 11), none, none, none]), (14, 20, [])]) (cl2 := 11) (sl2 := 108) rfl rfl rfl rfl ?_
  refine wt_iinc (z := 3) dX7_init_65 rfl rfl (by decide) ?_
  refine wp_goto (tgt := 47) dX7_init_68 rfl ?_
  refine wp_iload_n dX7_init_47 rfl rfl ?_
  refine wp_iconst dX7_init_48 (by decide) ?_
  refine wp_icmp_ge (tgt := 71) dX7_init_49 rfl (fun c => absurd c (by decide)) (fun _ => ?_)
  refine wp_aload_n dX7_init_52 rfl rfl ?_
  refine wp_getR (b := n0 + 1) dX7_init_53 fX7_11 rfl (ap_at (i := 0) hp rfl) (by decide) rfl ?_
  refine wp_iload_n dX7_init_56 rfl rfl ?_
  refine wt_new (t := 12) hp rfl dX7_init_57 nw_X7_9 hE ((hz).mono (by omega)) (by decide) ?_
  refine wp_dup dX7_init_60 rfl ?_
  refine wt_init (S := [vR (n0 + 12), vI 3, vR (n0 + 1)]) (as := []) (t := 12) hp rfl dX7_init_61 lX7_34 (ic_C6 hE hZ (d + 0)) (by omega) rfl ((hz).mono (by omega)) rfl (Nat.le_of_ble_eq_true rfl) (by decide) ?_
  refine wt_nrm (L2 := [some (vR n0), some (vI 3)]) (T2 := [(7, 8, [some (n0 + 1), some (n0 + 2), some (n0 + 3), some (n0 + 4), some (n0 + 5), none, none, none]), (18, 4, [some (n0 + 6), some (n0 + 8), some (n0 + 10), none]), (17, 8, [none, none, none, none, none, none, none, none]), (14, 8, []), (14, 8, []), (16, 8, []), (6, 4, [some (n0 + 7), none, none, none]), (14, 20, []), (6, 4, [some (n0 + 9), none, none, none]), (14, 20, []), (6, 4, [some (n0 + 11), none, none, none]), (14, 20, []), (6, 4, [some (n0 + 13), none, none, none]), (14, 20, [])]) (cl2 := 13) (sl2 := 132) rfl rfl rfl rfl ?_
  refine wt_aast (c := 18) (i := 1) (j := 12) hp rfl rfl (by decide) dX7_init_64 rfl rfl (by decide) rfl ?_
  refine wt_nrm (L2 := [some (vR n0), some (vI 3)]) (T2 := [(7, 8, [some (n0 + 1), some (n0 + 2), some (n0 + 3), some (n0 + 4), some (n0 + 5), none, none, none]), (18, 4, [some (n0 + 6), some (n0 + 8), some (n0 + 10), some (n0 + 12)]), (17, 8, [none, none, none, none, none, none, none, none]), (14, 8, []), (14, 8, []), (16, 8, []), (6, 4, [some (n0 + 7), none, none, none]), (14, 20, []), (6, 4, [some (n0 + 9), none, none, none]), (14, 20, []), (6, 4, [some (n0 + 11), none, none, none]), (14, 20, []), (6, 4, [some (n0 + 13), none, none, none]), (14, 20, [])]) (cl2 := 13) (sl2 := 132) rfl rfl rfl rfl ?_
  refine wt_iinc (z := 4) dX7_init_65 rfl rfl (by decide) ?_
  refine wp_goto (tgt := 47) dX7_init_68 rfl ?_
  refine wp_iload_n dX7_init_47 rfl rfl ?_
  refine wp_iconst dX7_init_48 (by decide) ?_
  refine wp_icmp_ge (tgt := 71) dX7_init_49 rfl (fun _ => ?_) (fun c => absurd (by decide) c)
  refine wp_iconst dX7_init_71 (by decide) ?_
  refine wp_istore_n dX7_init_72 rfl (by decide) rfl ?_
  refine wp_iload_n dX7_init_73 rfl rfl ?_
  refine wp_bipush dX7_init_74 (by decide) ?_
  refine wp_icmp_ge (tgt := 98) dX7_init_76 rfl (fun c => absurd c (by decide)) (fun _ => ?_)
  refine wp_aload_n dX7_init_79 rfl rfl ?_
  refine wp_getR (b := n0 + 2) dX7_init_80 fX7_19 rfl (ap_at (i := 0) hp rfl) (by decide) rfl ?_
  refine wp_iload_n dX7_init_83 rfl rfl ?_
  refine wt_new (t := 14) hp rfl dX7_init_84 nw_X7_17 hE ((hz).mono (by omega)) (by decide) ?_
  refine wp_dup dX7_init_87 rfl ?_
  refine wt_init (S := [vR (n0 + 14), vI 0, vR (n0 + 2)]) (as := []) (t := 14) hp rfl dX7_init_88 lX7_35 (ic_C0 hE hZ (d + 0)) (by omega) rfl ((hz).mono (by omega)) rfl (Nat.le_of_ble_eq_true rfl) (by decide) ?_
  refine wt_nrm (L2 := [some (vR n0), some (vI 0)]) (T2 := [(7, 8, [some (n0 + 1), some (n0 + 2), some (n0 + 3), some (n0 + 4), some (n0 + 5), none, none, none]), (18, 4, [some (n0 + 6), some (n0 + 8), some (n0 + 10), some (n0 + 12)]), (17, 8, [none, none, none, none, none, none, none, none]), (14, 8, []), (14, 8, []), (16, 8, []), (6, 4, [some (n0 + 7), none, none, none]), (14, 20, []), (6, 4, [some (n0 + 9), none, none, none]), (14, 20, []), (6, 4, [some (n0 + 11), none, none, none]), (14, 20, []), (6, 4, [some (n0 + 13), none, none, none]), (14, 20, []), (0, 4, [some (n0 + 15), none, none, none]), (14, 10, [])]) (cl2 := 15) (sl2 := 146) rfl rfl rfl rfl ?_
  refine wt_aast (c := 17) (i := 2) (j := 14) hp rfl rfl (by decide) dX7_init_91 rfl rfl (by decide) rfl ?_
  refine wt_nrm (L2 := [some (vR n0), some (vI 0)]) (T2 := [(7, 8, [some (n0 + 1), some (n0 + 2), some (n0 + 3), some (n0 + 4), some (n0 + 5), none, none, none]), (18, 4, [some (n0 + 6), some (n0 + 8), some (n0 + 10), some (n0 + 12)]), (17, 8, [some (n0 + 14), none, none, none, none, none, none, none]), (14, 8, []), (14, 8, []), (16, 8, []), (6, 4, [some (n0 + 7), none, none, none]), (14, 20, []), (6, 4, [some (n0 + 9), none, none, none]), (14, 20, []), (6, 4, [some (n0 + 11), none, none, none]), (14, 20, []), (6, 4, [some (n0 + 13), none, none, none]), (14, 20, []), (0, 4, [some (n0 + 15), none, none, none]), (14, 10, [])]) (cl2 := 15) (sl2 := 146) rfl rfl rfl rfl ?_
  refine wt_iinc (z := 1) dX7_init_92 rfl rfl (by decide) ?_
  refine wp_goto (tgt := 73) dX7_init_95 rfl ?_
  refine wp_iload_n dX7_init_73 rfl rfl ?_
  refine wp_bipush dX7_init_74 (by decide) ?_
  refine wp_icmp_ge (tgt := 98) dX7_init_76 rfl (fun c => absurd c (by decide)) (fun _ => ?_)
  refine wp_aload_n dX7_init_79 rfl rfl ?_
  refine wp_getR (b := n0 + 2) dX7_init_80 fX7_19 rfl (ap_at (i := 0) hp rfl) (by decide) rfl ?_
  refine wp_iload_n dX7_init_83 rfl rfl ?_
  refine wt_new (t := 16) hp rfl dX7_init_84 nw_X7_17 hE ((hz).mono (by omega)) (by decide) ?_
  refine wp_dup dX7_init_87 rfl ?_
  refine wt_init (S := [vR (n0 + 16), vI 1, vR (n0 + 2)]) (as := []) (t := 16) hp rfl dX7_init_88 lX7_35 (ic_C0 hE hZ (d + 0)) (by omega) rfl ((hz).mono (by omega)) rfl (Nat.le_of_ble_eq_true rfl) (by decide) ?_
  refine wt_nrm (L2 := [some (vR n0), some (vI 1)]) (T2 := [(7, 8, [some (n0 + 1), some (n0 + 2), some (n0 + 3), some (n0 + 4), some (n0 + 5), none, none, none]), (18, 4, [some (n0 + 6), some (n0 + 8), some (n0 + 10), some (n0 + 12)]), (17, 8, [some (n0 + 14), none, none, none, none, none, none, none]), (14, 8, []), (14, 8, []), (16, 8, []), (6, 4, [some (n0 + 7), none, none, none]), (14, 20, []), (6, 4, [some (n0 + 9), none, none, none]), (14, 20, []), (6, 4, [some (n0 + 11), none, none, none]), (14, 20, []), (6, 4, [some (n0 + 13), none, none, none]), (14, 20, []), (0, 4, [some (n0 + 15), none, none, none]), (14, 10, []), (0, 4, [some (n0 + 17), none, none, none]), (14, 10, [])]) (cl2 := 17) (sl2 := 160) rfl rfl rfl rfl ?_
  refine wt_aast (c := 17) (i := 2) (j := 16) hp rfl rfl (by decide) dX7_init_91 rfl rfl (by decide) rfl ?_
  refine wt_nrm (L2 := [some (vR n0), some (vI 1)]) (T2 := [(7, 8, [some (n0 + 1), some (n0 + 2), some (n0 + 3), some (n0 + 4), some (n0 + 5), none, none, none]), (18, 4, [some (n0 + 6), some (n0 + 8), some (n0 + 10), some (n0 + 12)]), (17, 8, [some (n0 + 14), some (n0 + 16), none, none, none, none, none, none]), (14, 8, []), (14, 8, []), (16, 8, []), (6, 4, [some (n0 + 7), none, none, none]), (14, 20, []), (6, 4, [some (n0 + 9), none, none, none]), (14, 20, []), (6, 4, [some (n0 + 11), none, none, none]), (14, 20, []), (6, 4, [some (n0 + 13), none, none, none]), (14, 20, []), (0, 4, [some (n0 + 15), none, none, none]), (14, 10, []), (0, 4, [some (n0 + 17), none, none, none]), (14, 10, [])]) (cl2 := 17) (sl2 := 160) rfl rfl rfl rfl ?_
  refine wt_iinc (z := 2) dX7_init_92 rfl rfl (by decide) ?_
  refine wp_goto (tgt := 73) dX7_init_95 rfl ?_
  refine wp_iload_n dX7_init_73 rfl rfl ?_
  refine wp_bipush dX7_init_74 (by decide) ?_
  refine wp_icmp_ge (tgt := 98) dX7_init_76 rfl (fun c => absurd c (by decide)) (fun _ => ?_)
  refine wp_aload_n dX7_init_79 rfl rfl ?_
  refine wp_getR (b := n0 + 2) dX7_init_80 fX7_19 rfl (ap_at (i := 0) hp rfl) (by decide) rfl ?_
  refine wp_iload_n dX7_init_83 rfl rfl ?_
  refine wt_new (t := 18) hp rfl dX7_init_84 nw_X7_17 hE ((hz).mono (by omega)) (by decide) ?_
  refine wp_dup dX7_init_87 rfl ?_
  refine wt_init (S := [vR (n0 + 18), vI 2, vR (n0 + 2)]) (as := []) (t := 18) hp rfl dX7_init_88 lX7_35 (ic_C0 hE hZ (d + 0)) (by omega) rfl ((hz).mono (by omega)) rfl (Nat.le_of_ble_eq_true rfl) (by decide) ?_
  refine wt_nrm (L2 := [some (vR n0), some (vI 2)]) (T2 := [(7, 8, [some (n0 + 1), some (n0 + 2), some (n0 + 3), some (n0 + 4), some (n0 + 5), none, none, none]), (18, 4, [some (n0 + 6), some (n0 + 8), some (n0 + 10), some (n0 + 12)]), (17, 8, [some (n0 + 14), some (n0 + 16), none, none, none, none, none, none]), (14, 8, []), (14, 8, []), (16, 8, []), (6, 4, [some (n0 + 7), none, none, none]), (14, 20, []), (6, 4, [some (n0 + 9), none, none, none]), (14, 20, []), (6, 4, [some (n0 + 11), none, none, none]), (14, 20, []), (6, 4, [some (n0 + 13), none, none, none]), (14, 20, []), (0, 4, [some (n0 + 15), none, none, none]), (14, 10, []), (0, 4, [some (n0 + 17), none, none, none]), (14, 10, []), (0, 4, [some (n0 + 19), none, none, none]), (14, 10, [])]) (cl2 := 19) (sl2 := 174) rfl rfl rfl rfl ?_
  refine wt_aast (c := 17) (i := 2) (j := 18) hp rfl rfl (by decide) dX7_init_91 rfl rfl (by decide) rfl ?_
  refine wt_nrm (L2 := [some (vR n0), some (vI 2)]) (T2 := [(7, 8, [some (n0 + 1), some (n0 + 2), some (n0 + 3), some (n0 + 4), some (n0 + 5), none, none, none]), (18, 4, [some (n0 + 6), some (n0 + 8), some (n0 + 10), some (n0 + 12)]), (17, 8, [some (n0 + 14), some (n0 + 16), some (n0 + 18), none, none, none, none, none]), (14, 8, []), (14, 8, []), (16, 8, []), (6, 4, [some (n0 + 7), none, none, none]), (14, 20, []), (6, 4, [some (n0 + 9), none, none, none]), (14, 20, []), (6, 4, [some (n0 + 11), none, none, none]), (14, 20, []), (6, 4, [some (n0 + 13), none, none, none]), (14, 20, []), (0, 4, [some (n0 + 15), none, none, none]), (14, 10, []), (0, 4, [some (n0 + 17), none, none, none]), (14, 10, []), (0, 4, [some (n0 + 19), none, none, none]), (14, 10, [])]) (cl2 := 19) (sl2 := 174) rfl rfl rfl rfl ?_
  refine wt_iinc (z := 3) dX7_init_92 rfl rfl (by decide) ?_
  refine wp_goto (tgt := 73) dX7_init_95 rfl ?_
  refine wp_iload_n dX7_init_73 rfl rfl ?_
  refine wp_bipush dX7_init_74 (by decide) ?_
  refine wp_icmp_ge (tgt := 98) dX7_init_76 rfl (fun c => absurd c (by decide)) (fun _ => ?_)
  refine wp_aload_n dX7_init_79 rfl rfl ?_
  refine wp_getR (b := n0 + 2) dX7_init_80 fX7_19 rfl (ap_at (i := 0) hp rfl) (by decide) rfl ?_
  refine wp_iload_n dX7_init_83 rfl rfl ?_
  refine wt_new (t := 20) hp rfl dX7_init_84 nw_X7_17 hE ((hz).mono (by omega)) (by decide) ?_
  refine wp_dup dX7_init_87 rfl ?_
  refine wt_init (S := [vR (n0 + 20), vI 3, vR (n0 + 2)]) (as := []) (t := 20) hp rfl dX7_init_88 lX7_35 (ic_C0 hE hZ (d + 0)) (by omega) rfl ((hz).mono (by omega)) rfl (Nat.le_of_ble_eq_true rfl) (by decide) ?_
  refine wt_nrm (L2 := [some (vR n0), some (vI 3)]) (T2 := [(7, 8, [some (n0 + 1), some (n0 + 2), some (n0 + 3), some (n0 + 4), some (n0 + 5), none, none, none]), (18, 4, [some (n0 + 6), some (n0 + 8), some (n0 + 10), some (n0 + 12)]), (17, 8, [some (n0 + 14), some (n0 + 16), some (n0 + 18), none, none, none, none, none]), (14, 8, []), (14, 8, []), (16, 8, []), (6, 4, [some (n0 + 7), none, none, none]), (14, 20, []), (6, 4, [some (n0 + 9), none, none, none]), (14, 20, []), (6, 4, [some (n0 + 11), none, none, none]), (14, 20, []), (6, 4, [some (n0 + 13), none, none, none]), (14, 20, []), (0, 4, [some (n0 + 15), none, none, none]), (14, 10, []), (0, 4, [some (n0 + 17), none, none, none]), (14, 10, []), (0, 4, [some (n0 + 19), none, none, none]), (14, 10, []), (0, 4, [some (n0 + 21), none, none, none]), (14, 10, [])]) (cl2 := 21) (sl2 := 188) rfl rfl rfl rfl ?_
  refine wt_aast (c := 17) (i := 2) (j := 20) hp rfl rfl (by decide) dX7_init_91 rfl rfl (by decide) rfl ?_
  refine wt_nrm (L2 := [some (vR n0), some (vI 3)]) (T2 := [(7, 8, [some (n0 + 1), some (n0 + 2), some (n0 + 3), some (n0 + 4), some (n0 + 5), none, none, none]), (18, 4, [some (n0 + 6), some (n0 + 8), some (n0 + 10), some (n0 + 12)]), (17, 8, [some (n0 + 14), some (n0 + 16), some (n0 + 18), some (n0 + 20), none, none, none, none]), (14, 8, []), (14, 8, []), (16, 8, []), (6, 4, [some (n0 + 7), none, none, none]), (14, 20, []), (6, 4, [some (n0 + 9), none, none, none]), (14, 20, []), (6, 4, [some (n0 + 11), none, none, none]), (14, 20, []), (6, 4, [some (n0 + 13), none, none, none]), (14, 20, []), (0, 4, [some (n0 + 15), none, none, none]), (14, 10, []), (0, 4, [some (n0 + 17), none, none, none]), (14, 10, []), (0, 4, [some (n0 + 19), none, none, none]), (14, 10, []), (0, 4, [some (n0 + 21), none, none, none]), (14, 10, [])]) (cl2 := 21) (sl2 := 188) rfl rfl rfl rfl ?_
  refine wt_iinc (z := 4) dX7_init_92 rfl rfl (by decide) ?_
  refine wp_goto (tgt := 73) dX7_init_95 rfl ?_
  refine wp_iload_n dX7_init_73 rfl rfl ?_
  refine wp_bipush dX7_init_74 (by decide) ?_
  refine wp_icmp_ge (tgt := 98) dX7_init_76 rfl (fun c => absurd c (by decide)) (fun _ => ?_)
  refine wp_aload_n dX7_init_79 rfl rfl ?_
  refine wp_getR (b := n0 + 2) dX7_init_80 fX7_19 rfl (ap_at (i := 0) hp rfl) (by decide) rfl ?_
  refine wp_iload_n dX7_init_83 rfl rfl ?_
  refine wt_new (t := 22) hp rfl dX7_init_84 nw_X7_17 hE ((hz).mono (by omega)) (by decide) ?_
  refine wp_dup dX7_init_87 rfl ?_
  refine wt_init (S := [vR (n0 + 22), vI 4, vR (n0 + 2)]) (as := []) (t := 22) hp rfl dX7_init_88 lX7_35 (ic_C0 hE hZ (d + 0)) (by omega) rfl ((hz).mono (by omega)) rfl (Nat.le_of_ble_eq_true rfl) (by decide) ?_
  refine wt_nrm (L2 := [some (vR n0), some (vI 4)]) (T2 := [(7, 8, [some (n0 + 1), some (n0 + 2), some (n0 + 3), some (n0 + 4), some (n0 + 5), none, none, none]), (18, 4, [some (n0 + 6), some (n0 + 8), some (n0 + 10), some (n0 + 12)]), (17, 8, [some (n0 + 14), some (n0 + 16), some (n0 + 18), some (n0 + 20), none, none, none, none]), (14, 8, []), (14, 8, []), (16, 8, []), (6, 4, [some (n0 + 7), none, none, none]), (14, 20, []), (6, 4, [some (n0 + 9), none, none, none]), (14, 20, []), (6, 4, [some (n0 + 11), none, none, none]), (14, 20, []), (6, 4, [some (n0 + 13), none, none, none]), (14, 20, []), (0, 4, [some (n0 + 15), none, none, none]), (14, 10, []), (0, 4, [some (n0 + 17), none, none, none]), (14, 10, []), (0, 4, [some (n0 + 19), none, none, none]), (14, 10, []), (0, 4, [some (n0 + 21), none, none, none]), (14, 10, []), (0, 4, [some (n0 + 23), none, none, none]), (14, 10, [])]) (cl2 := 23) (sl2 := 202) rfl rfl rfl rfl ?_
  refine wt_aast (c := 17) (i := 2) (j := 22) hp rfl rfl (by decide) dX7_init_91 rfl rfl (by decide) rfl ?_
  refine wt_nrm (L2 := [some (vR n0), some (vI 4)]) (T2 := [(7, 8, [some (n0 + 1), some (n0 + 2), some (n0 + 3), some (n0 + 4), some (n0 + 5), none, none, none]), (18, 4, [some (n0 + 6), some (n0 + 8), some (n0 + 10), some (n0 + 12)]), (17, 8, [some (n0 + 14), some (n0 + 16), some (n0 + 18), some (n0 + 20), some (n0 + 22), none, none, none]), (14, 8, []), (14, 8, []), (16, 8, []), (6, 4, [some (n0 + 7), none, none, none]), (14, 20, []), (6, 4, [some (n0 + 9), none, none, none]), (14, 20, []), (6, 4, [some (n0 + 11), none, none, none]), (14, 20, []), (6, 4, [some (n0 + 13), none, none, none]), (14, 20, []), (0, 4, [some (n0 + 15), none, none, none]), (14, 10, []), (0, 4, [some (n0 + 17), none, none, none]), (14, 10, []), (0, 4, [some (n0 + 19), none, none, none]), (14, 10, []), (0, 4, [some (n0 + 21), none, none, none]), (14, 10, []), (0, 4, [some (n0 + 23), none, none, none]), (14, 10, [])]) (cl2 := 23) (sl2 := 202) rfl rfl rfl rfl ?_
  refine wt_iinc (z := 5) dX7_init_92 rfl rfl (by decide) ?_
  refine wp_goto (tgt := 73) dX7_init_95 rfl ?_
  refine wp_iload_n dX7_init_73 rfl rfl ?_
  refine wp_bipush dX7_init_74 (by decide) ?_
  refine wp_icmp_ge (tgt := 98) dX7_init_76 rfl (fun c => absurd c (by decide)) (fun _ => ?_)
  refine wp_aload_n dX7_init_79 rfl rfl ?_
  refine wp_getR (b := n0 + 2) dX7_init_80 fX7_19 rfl (ap_at (i := 0) hp rfl) (by decide) rfl ?_
  refine wp_iload_n dX7_init_83 rfl rfl ?_
  refine wt_new (t := 24) hp rfl dX7_init_84 nw_X7_17 hE ((hz).mono (by omega)) (by decide) ?_
  refine wp_dup dX7_init_87 rfl ?_
  refine wt_init (S := [vR (n0 + 24), vI 5, vR (n0 + 2)]) (as := []) (t := 24) hp rfl dX7_init_88 lX7_35 (ic_C0 hE hZ (d + 0)) (by omega) rfl ((hz).mono (by omega)) rfl (Nat.le_of_ble_eq_true rfl) (by decide) ?_
  refine wt_nrm (L2 := [some (vR n0), some (vI 5)]) (T2 := [(7, 8, [some (n0 + 1), some (n0 + 2), some (n0 + 3), some (n0 + 4), some (n0 + 5), none, none, none]), (18, 4, [some (n0 + 6), some (n0 + 8), some (n0 + 10), some (n0 + 12)]), (17, 8, [some (n0 + 14), some (n0 + 16), some (n0 + 18), some (n0 + 20), some (n0 + 22), none, none, none]), (14, 8, []), (14, 8, []), (16, 8, []), (6, 4, [some (n0 + 7), none, none, none]), (14, 20, []), (6, 4, [some (n0 + 9), none, none, none]), (14, 20, []), (6, 4, [some (n0 + 11), none, none, none]), (14, 20, []), (6, 4, [some (n0 + 13), none, none, none]), (14, 20, []), (0, 4, [some (n0 + 15), none, none, none]), (14, 10, []), (0, 4, [some (n0 + 17), none, none, none]), (14, 10, []), (0, 4, [some (n0 + 19), none, none, none]), (14, 10, []), (0, 4, [some (n0 + 21), none, none, none]), (14, 10, []), (0, 4, [some (n0 + 23), none, none, none]), (14, 10, []), (0, 4, [some (n0 + 25), none, none, none]), (14, 10, [])]) (cl2 := 25) (sl2 := 216) rfl rfl rfl rfl ?_
  refine wt_aast (c := 17) (i := 2) (j := 24) hp rfl rfl (by decide) dX7_init_91 rfl rfl (by decide) rfl ?_
  refine wt_nrm (L2 := [some (vR n0), some (vI 5)]) (T2 := [(7, 8, [some (n0 + 1), some (n0 + 2), some (n0 + 3), some (n0 + 4), some (n0 + 5), none, none, none]), (18, 4, [some (n0 + 6), some (n0 + 8), some (n0 + 10), some (n0 + 12)]), (17, 8, [some (n0 + 14), some (n0 + 16), some (n0 + 18), some (n0 + 20), some (n0 + 22), some (n0 + 24), none, none]), (14, 8, []), (14, 8, []), (16, 8, []), (6, 4, [some (n0 + 7), none, none, none]), (14, 20, []), (6, 4, [some (n0 + 9), none, none, none]), (14, 20, []), (6, 4, [some (n0 + 11), none, none, none]), (14, 20, []), (6, 4, [some (n0 + 13), none, none, none]), (14, 20, []), (0, 4, [some (n0 + 15), none, none, none]), (14, 10, []), (0, 4, [some (n0 + 17), none, none, none]), (14, 10, []), (0, 4, [some (n0 + 19), none, none, none]), (14, 10, []), (0, 4, [some (n0 + 21), none, none, none]), (14, 10, []), (0, 4, [some (n0 + 23), none, none, none]), (14, 10, []), (0, 4, [some (n0 + 25), none, none, none]), (14, 10, [])]) (cl2 := 25) (sl2 := 216) rfl rfl rfl rfl ?_
  refine wt_iinc (z := 6) dX7_init_92 rfl rfl (by decide) ?_
  refine wp_goto (tgt := 73) dX7_init_95 rfl ?_
  refine wp_iload_n dX7_init_73 rfl rfl ?_
  refine wp_bipush dX7_init_74 (by decide) ?_
  refine wp_icmp_ge (tgt := 98) dX7_init_76 rfl (fun c => absurd c (by decide)) (fun _ => ?_)
  refine wp_aload_n dX7_init_79 rfl rfl ?_
  refine wp_getR (b := n0 + 2) dX7_init_80 fX7_19 rfl (ap_at (i := 0) hp rfl) (by decide) rfl ?_
  refine wp_iload_n dX7_init_83 rfl rfl ?_
  refine wt_new (t := 26) hp rfl dX7_init_84 nw_X7_17 hE ((hz).mono (by omega)) (by decide) ?_
  refine wp_dup dX7_init_87 rfl ?_
  refine wt_init (S := [vR (n0 + 26), vI 6, vR (n0 + 2)]) (as := []) (t := 26) hp rfl dX7_init_88 lX7_35 (ic_C0 hE hZ (d + 0)) (by omega) rfl ((hz).mono (by omega)) rfl (Nat.le_of_ble_eq_true rfl) (by decide) ?_
  refine wt_nrm (L2 := [some (vR n0), some (vI 6)]) (T2 := [(7, 8, [some (n0 + 1), some (n0 + 2), some (n0 + 3), some (n0 + 4), some (n0 + 5), none, none, none]), (18, 4, [some (n0 + 6), some (n0 + 8), some (n0 + 10), some (n0 + 12)]), (17, 8, [some (n0 + 14), some (n0 + 16), some (n0 + 18), some (n0 + 20), some (n0 + 22), some (n0 + 24), none, none]), (14, 8, []), (14, 8, []), (16, 8, []), (6, 4, [some (n0 + 7), none, none, none]), (14, 20, []), (6, 4, [some (n0 + 9), none, none, none]), (14, 20, []), (6, 4, [some (n0 + 11), none, none, none]), (14, 20, []), (6, 4, [some (n0 + 13), none, none, none]), (14, 20, []), (0, 4, [some (n0 + 15), none, none, none]), (14, 10, []), (0, 4, [some (n0 + 17), none, none, none]), (14, 10, []), (0, 4, [some (n0 + 19), none, none, none]), (14, 10, []), (0, 4, [some (n0 + 21), none, none, none]), (14, 10, []), (0, 4, [some (n0 + 23), none, none, none]), (14, 10, []), (0, 4, [some (n0 + 25), none, none, none]), (14, 10, []), (0, 4, [some (n0 + 27), none, none, none]), (14, 10, [])]) (cl2 := 27) (sl2 := 230) rfl rfl rfl rfl ?_
  refine wt_aast (c := 17) (i := 2) (j := 26) hp rfl rfl (by decide) dX7_init_91 rfl rfl (by decide) rfl ?_
  refine wt_nrm (L2 := [some (vR n0), some (vI 6)]) (T2 := [(7, 8, [some (n0 + 1), some (n0 + 2), some (n0 + 3), some (n0 + 4), some (n0 + 5), none, none, none]), (18, 4, [some (n0 + 6), some (n0 + 8), some (n0 + 10), some (n0 + 12)]), (17, 8, [some (n0 + 14), some (n0 + 16), some (n0 + 18), some (n0 + 20), some (n0 + 22), some (n0 + 24), some (n0 + 26), none]), (14, 8, []), (14, 8, []), (16, 8, []), (6, 4, [some (n0 + 7), none, none, none]), (14, 20, []), (6, 4, [some (n0 + 9), none, none, none]), (14, 20, []), (6, 4, [some (n0 + 11), none, none, none]), (14, 20, []), (6, 4, [some (n0 + 13), none, none, none]), (14, 20, []), (0, 4, [some (n0 + 15), none, none, none]), (14, 10, []), (0, 4, [some (n0 + 17), none, none, none]), (14, 10, []), (0, 4, [some (n0 + 19), none, none, none]), (14, 10, []), (0, 4, [some (n0 + 21), none, none, none]), (14, 10, []), (0, 4, [some (n0 + 23), none, none, none]), (14, 10, []), (0, 4, [some (n0 + 25), none, none, none]), (14, 10, []), (0, 4, [some (n0 + 27), none, none, none]), (14, 10, [])]) (cl2 := 27) (sl2 := 230) rfl rfl rfl rfl ?_
  refine wt_iinc (z := 7) dX7_init_92 rfl rfl (by decide) ?_
  refine wp_goto (tgt := 73) dX7_init_95 rfl ?_
  refine wp_iload_n dX7_init_73 rfl rfl ?_
  refine wp_bipush dX7_init_74 (by decide) ?_
  refine wp_icmp_ge (tgt := 98) dX7_init_76 rfl (fun c => absurd c (by decide)) (fun _ => ?_)
  refine wp_aload_n dX7_init_79 rfl rfl ?_
  refine wp_getR (b := n0 + 2) dX7_init_80 fX7_19 rfl (ap_at (i := 0) hp rfl) (by decide) rfl ?_
  refine wp_iload_n dX7_init_83 rfl rfl ?_
  refine wt_new (t := 28) hp rfl dX7_init_84 nw_X7_17 hE ((hz).mono (by omega)) (by decide) ?_
  refine wp_dup dX7_init_87 rfl ?_
  refine wt_init (S := [vR (n0 + 28), vI 7, vR (n0 + 2)]) (as := []) (t := 28) hp rfl dX7_init_88 lX7_35 (ic_C0 hE hZ (d + 0)) (by omega) rfl ((hz).mono (by omega)) rfl (Nat.le_of_ble_eq_true rfl) (by decide) ?_
  refine wt_nrm (L2 := [some (vR n0), some (vI 7)]) (T2 := [(7, 8, [some (n0 + 1), some (n0 + 2), some (n0 + 3), some (n0 + 4), some (n0 + 5), none, none, none]), (18, 4, [some (n0 + 6), some (n0 + 8), some (n0 + 10), some (n0 + 12)]), (17, 8, [some (n0 + 14), some (n0 + 16), some (n0 + 18), some (n0 + 20), some (n0 + 22), some (n0 + 24), some (n0 + 26), none]), (14, 8, []), (14, 8, []), (16, 8, []), (6, 4, [some (n0 + 7), none, none, none]), (14, 20, []), (6, 4, [some (n0 + 9), none, none, none]), (14, 20, []), (6, 4, [some (n0 + 11), none, none, none]), (14, 20, []), (6, 4, [some (n0 + 13), none, none, none]), (14, 20, []), (0, 4, [some (n0 + 15), none, none, none]), (14, 10, []), (0, 4, [some (n0 + 17), none, none, none]), (14, 10, []), (0, 4, [some (n0 + 19), none, none, none]), (14, 10, []), (0, 4, [some (n0 + 21), none, none, none]), (14, 10, []), (0, 4, [some (n0 + 23), none, none, none]), (14, 10, []), (0, 4, [some (n0 + 25), none, none, none]), (14, 10, []), (0, 4, [some (n0 + 27), none, none, none]), (14, 10, []), (0, 4, [some (n0 + 29), none, none, none]), (14, 10, [])]) (cl2 := 29) (sl2 := 244) rfl rfl rfl rfl ?_
  refine wt_aast (c := 17) (i := 2) (j := 28) hp rfl rfl (by decide) dX7_init_91 rfl rfl (by decide) rfl ?_
  refine wt_nrm (L2 := [some (vR n0), some (vI 7)]) (T2 := [(7, 8, [some (n0 + 1), some (n0 + 2), some (n0 + 3), some (n0 + 4), some (n0 + 5), none, none, none]), (18, 4, [some (n0 + 6), some (n0 + 8), some (n0 + 10), some (n0 + 12)]), (17, 8, [some (n0 + 14), some (n0 + 16), some (n0 + 18), some (n0 + 20), some (n0 + 22), some (n0 + 24), some (n0 + 26), some (n0 + 28)]), (14, 8, []), (14, 8, []), (16, 8, []), (6, 4, [some (n0 + 7), none, none, none]), (14, 20, []), (6, 4, [some (n0 + 9), none, none, none]), (14, 20, []), (6, 4, [some (n0 + 11), none, none, none]), (14, 20, []), (6, 4, [some (n0 + 13), none, none, none]), (14, 20, []), (0, 4, [some (n0 + 15), none, none, none]), (14, 10, []), (0, 4, [some (n0 + 17), none, none, none]), (14, 10, []), (0, 4, [some (n0 + 19), none, none, none]), (14, 10, []), (0, 4, [some (n0 + 21), none, none, none]), (14, 10, []), (0, 4, [some (n0 + 23), none, none, none]), (14, 10, []), (0, 4, [some (n0 + 25), none, none, none]), (14, 10, []), (0, 4, [some (n0 + 27), none, none, none]), (14, 10, []), (0, 4, [some (n0 + 29), none, none, none]), (14, 10, [])]) (cl2 := 29) (sl2 := 244) rfl rfl rfl rfl ?_
  refine wt_iinc (z := 8) dX7_init_92 rfl rfl (by decide) ?_
  refine wp_goto (tgt := 73) dX7_init_95 rfl ?_
  refine wp_iload_n dX7_init_73 rfl rfl ?_
  refine wp_bipush dX7_init_74 (by decide) ?_
  refine wp_icmp_ge (tgt := 98) dX7_init_76 rfl (fun _ => ?_) (fun c => absurd (by decide) c)
  refine wp_return dX7_init_98 rfl (by decide) ⟨rfl, rfl, rfl⟩
def C2 (n : Nat) : List SC := [(2, 6, [some (n + 1), some (n + 3), some (n + 5), some (n + 17), some (n + 29), some (n + 41)]), (0, 4, [some (n + 2), none, none, none]), (14, 10, []), (0, 4, [some (n + 4), none, none, none]), (14, 10, []), (20, 11, [some (n + 6), some (n + 7), some (n + 8), some (n + 9), some (n + 10), some (n + 11), some (n + 12), some (n + 13), some (n + 14), some (n + 15), some (n + 16)]), (14, 11, []), (14, 11, []), (14, 11, []), (14, 11, []), (14, 11, []), (14, 11, []), (14, 11, []), (14, 11, []), (14, 11, []), (14, 11, []), (14, 11, []), (20, 11, [some (n + 18), some (n + 19), some (n + 20), some (n + 21), some (n + 22), some (n + 23), some (n + 24), some (n + 25), some (n + 26), some (n + 27), some (n + 28)]), (14, 11, []), (14, 11, []), (14, 11, []), (14, 11, []), (14, 11, []), (14, 11, []), (14, 11, []), (14, 11, []), (14, 11, []), (14, 11, []), (14, 11, []), (20, 11, [some (n + 30), some (n + 31), some (n + 32), some (n + 33), some (n + 34), some (n + 35), some (n + 36), some (n + 37), some (n + 38), some (n + 39), some (n + 40)]), (14, 11, []), (14, 11, []), (14, 11, []), (14, 11, []), (14, 11, []), (14, 11, []), (14, 11, []), (14, 11, []), (14, 11, []), (14, 11, []), (14, 11, []), (14, 10, [])]
theorem C2_len (n : Nat) : (C2 n).length = 42 := rfl
set_option maxRecDepth 100000 in
set_option maxHeartbeats 4000000 in
theorem ic_C2 {K : KK} (hE : kE K = true) (hZ : ∀ U H, kZ K U H → OKZ U) (d : Nat) : IC K (d + 2) mX2_init 41 434 2 6 [] C2 (fun _ V => V) := by
  intro pre n0 V hp hz
  refine Mt.of2 (L := enL mX2_init.2.2.1 (vR n0 :: [])) rfl rfl rfl ?_
  refine wp_aload_n dX2_init_0 rfl rfl ?_
  refine wp_objInit dX2_init_1 lX2_3 (by omega) (Nat.le_of_ble_eq_true rfl) ?_
  refine wp_aload_n dX2_init_4 rfl rfl ?_
  refine wt_new (t := 1) hp rfl dX2_init_5 nw_X2_9 hE ((hz).mono (by omega)) (by decide) ?_
  refine wp_dup dX2_init_8 rfl ?_
  refine wt_init (S := [vR (n0 + 1), vR n0]) (as := []) (t := 1) hp rfl dX2_init_9 lX2_11 (ic_C0 hE hZ (d + 0)) (by omega) rfl ((hz).mono (by omega)) rfl (Nat.le_of_ble_eq_true rfl) (by decide) ?_
  refine wt_nrm (L2 := [some (vR n0)]) (T2 := [(2, 6, [none, none, none, none, none, none]), (0, 4, [some (n0 + 2), none, none, none]), (14, 10, [])]) (cl2 := 2) (sl2 := 14) rfl rfl rfl rfl ?_
  refine wt_putF (i := 0) hp rfl dX2_init_12 ffX2_12 rfl rfl rfl (by decide) (Nat.le_of_ble_eq_true rfl) ?_
  refine wt_nrm (L2 := [some (vR n0)]) (T2 := [(2, 6, [some (n0 + 1), none, none, none, none, none]), (0, 4, [some (n0 + 2), none, none, none]), (14, 10, [])]) (cl2 := 2) (sl2 := 14) rfl rfl rfl rfl ?_
  refine wp_aload_n dX2_init_15 rfl rfl ?_
  refine wt_new (t := 3) hp rfl dX2_init_16 nw_X2_9 hE ((hz).mono (by omega)) (by decide) ?_
  refine wp_dup dX2_init_19 rfl ?_
  refine wt_init (S := [vR (n0 + 3), vR n0]) (as := []) (t := 3) hp rfl dX2_init_20 lX2_11 (ic_C0 hE hZ (d + 0)) (by omega) rfl ((hz).mono (by omega)) rfl (Nat.le_of_ble_eq_true rfl) (by decide) ?_
  refine wt_nrm (L2 := [some (vR n0)]) (T2 := [(2, 6, [some (n0 + 1), none, none, none, none, none]), (0, 4, [some (n0 + 2), none, none, none]), (14, 10, []), (0, 4, [some (n0 + 4), none, none, none]), (14, 10, [])]) (cl2 := 4) (sl2 := 28) rfl rfl rfl rfl ?_
  refine wt_putF (i := 0) hp rfl dX2_init_23 ffX2_18 rfl rfl rfl (by decide) (Nat.le_of_ble_eq_true rfl) ?_
  refine wt_nrm (L2 := [some (vR n0)]) (T2 := [(2, 6, [some (n0 + 1), some (n0 + 3), none, none, none, none]), (0, 4, [some (n0 + 2), none, none, none]), (14, 10, []), (0, 4, [some (n0 + 4), none, none, none]), (14, 10, [])]) (cl2 := 4) (sl2 := 28) rfl rfl rfl rfl ?_
  refine wp_aload_n dX2_init_26 rfl rfl ?_
  refine wp_bipush dX2_init_27 (by decide) ?_
  refine wp_bipush dX2_init_29 (by decide) ?_
  refine wt_multi (n := 11) (k := 11) (t := 5) hp rfl dX2_init_31 nwc_X2_21 nwa_int (fun U H h => (hZ U H h).2.2.2) hE (by decide) (by decide) ((hz).mono (by omega)) ?_
  refine wt_nrm (L2 := [some (vR n0)]) (T2 := [(2, 6, [some (n0 + 1), some (n0 + 3), none, none, none, none]), (0, 4, [some (n0 + 2), none, none, none]), (14, 10, []), (0, 4, [some (n0 + 4), none, none, none]), (14, 10, []), (20, 11, [some (n0 + 6), some (n0 + 7), some (n0 + 8), some (n0 + 9), some (n0 + 10), some (n0 + 11), some (n0 + 12), some (n0 + 13), some (n0 + 14), some (n0 + 15), some (n0 + 16)]), (14, 11, []), (14, 11, []), (14, 11, []), (14, 11, []), (14, 11, []), (14, 11, []), (14, 11, []), (14, 11, []), (14, 11, []), (14, 11, []), (14, 11, [])]) (cl2 := 16) (sl2 := 160) rfl rfl rfl rfl ?_
  refine wt_putF (i := 0) hp rfl dX2_init_35 ffX2_23 rfl rfl rfl (by decide) (Nat.le_of_ble_eq_true rfl) ?_
  refine wt_nrm (L2 := [some (vR n0)]) (T2 := [(2, 6, [some (n0 + 1), some (n0 + 3), some (n0 + 5), none, none, none]), (0, 4, [some (n0 + 2), none, none, none]), (14, 10, []), (0, 4, [some (n0 + 4), none, none, none]), (14, 10, []), (20, 11, [some (n0 + 6), some (n0 + 7), some (n0 + 8), some (n0 + 9), some (n0 + 10), some (n0 + 11), some (n0 + 12), some (n0 + 13), some (n0 + 14), some (n0 + 15), some (n0 + 16)]), (14, 11, []), (14, 11, []), (14, 11, []), (14, 11, []), (14, 11, []), (14, 11, []), (14, 11, []), (14, 11, []), (14, 11, []), (14, 11, []), (14, 11, [])]) (cl2 := 16) (sl2 := 160) rfl rfl rfl rfl ?_
  refine wp_aload_n dX2_init_38 rfl rfl ?_
  refine wp_bipush dX2_init_39 (by decide) ?_
  refine wp_bipush dX2_init_41 (by decide) ?_
  refine wt_multi (n := 11) (k := 11) (t := 17) hp rfl dX2_init_43 nwc_X2_21 nwa_int (fun U H h => (hZ U H h).2.2.2) hE (by decide) (by decide) ((hz).mono (by omega)) ?_
  refine wt_nrm (L2 := [some (vR n0)]) (T2 := [(2, 6, [some (n0 + 1), some (n0 + 3), some (n0 + 5), none, none, none]), (0, 4, [some (n0 + 2), none, none, none]), (14, 10, []), (0, 4, [some (n0 + 4), none, none, none]), (14, 10, []), (20, 11, [some (n0 + 6), some (n0 + 7), some (n0 + 8), some (n0 + 9), some (n0 + 10), some (n0 + 11), some (n0 + 12), some (n0 + 13), some (n0 + 14), some (n0 + 15), some (n0 + 16)]), (14, 11, []), (14, 11, []), (14, 11, []), (14, 11, []), (14, 11, []), (14, 11, []), (14, 11, []), (14, 11, []), (14, 11, []), (14, 11, []), (14, 11, []), (20, 11, [some (n0 + 18), some (n0 + 19), some (n0 + 20), some (n0 + 21), some (n0 + 22), some (n0 + 23), some (n0 + 24), some (n0 + 25), some (n0 + 26), some (n0 + 27), some (n0 + 28)]), (14, 11, []), (14, 11, []), (14, 11, []), (14, 11, []), (14, 11, []), (14, 11, []), (14, 11, []), (14, 11, []), (14, 11, []), (14, 11, []), (14, 11, [])]) (cl2 := 28) (sl2 := 292) rfl rfl rfl rfl ?_
  refine wt_putF (i := 0) hp rfl dX2_init_47 ffX2_26 rfl rfl rfl (by decide) (Nat.le_of_ble_eq_true rfl) ?_
  refine wt_nrm (L2 := [some (vR n0)]) (T2 := [(2, 6, [some (n0 + 1), some (n0 + 3), some (n0 + 5), some (n0 + 17), none, none]), (0, 4, [some (n0 + 2), none, none, none]), (14, 10, []), (0, 4, [some (n0 + 4), none, none, none]), (14, 10, []), (20, 11, [some (n0 + 6), some (n0 + 7), some (n0 + 8), some (n0 + 9), some (n0 + 10), some (n0 + 11), some (n0 + 12), some (n0 + 13), some (n0 + 14), some (n0 + 15), some (n0 + 16)]), (14, 11, []), (14, 11, []), (14, 11, []), (14, 11, []), (14, 11, []), (14, 11, []), (14, 11, []), (14, 11, []), (14, 11, []), (14, 11, []), (14, 11, []), (20, 11, [some (n0 + 18), some (n0 + 19), some (n0 + 20), some (n0 + 21), some (n0 + 22), some (n0 + 23), some (n0 + 24), some (n0 + 25), some (n0 + 26), some (n0 + 27), some (n0 + 28)]), (14, 11, []), (14, 11, []), (14, 11, []), (14, 11, []), (14, 11, []), (14, 11, []), (14, 11, []), (14, 11, []), (14, 11, []), (14, 11, []), (14, 11, [])]) (cl2 := 28) (sl2 := 292) rfl rfl rfl rfl ?_
  refine wp_aload_n dX2_init_50 rfl rfl ?_
  refine wp_bipush dX2_init_51 (by decide) ?_
  refine wp_bipush dX2_init_53 (by decide) ?_
  refine wt_multi (n := 11) (k := 11) (t := 29) hp rfl dX2_init_55 nwc_X2_21 nwa_int (fun U H h => (hZ U H h).2.2.2) hE (by decide) (by decide) ((hz).mono (by omega)) ?_
  refine wt_nrm (L2 := [some (vR n0)]) (T2 := [(2, 6, [some (n0 + 1), some (n0 + 3), some (n0 + 5), some (n0 + 17), none, none]), (0, 4, [some (n0 + 2), none, none, none]), (14, 10, []), (0, 4, [some (n0 + 4), none, none, none]), (14, 10, []), (20, 11, [some (n0 + 6), some (n0 + 7), some (n0 + 8), some (n0 + 9), some (n0 + 10), some (n0 + 11), some (n0 + 12), some (n0 + 13), some (n0 + 14), some (n0 + 15), some (n0 + 16)]), (14, 11, []), (14, 11, []), (14, 11, []), (14, 11, []), (14, 11, []), (14, 11, []), (14, 11, []), (14, 11, []), (14, 11, []), (14, 11, []), (14, 11, []), (20, 11, [some (n0 + 18), some (n0 + 19), some (n0 + 20), some (n0 + 21), some (n0 + 22), some (n0 + 23), some (n0 + 24), some (n0 + 25), some (n0 + 26), some (n0 + 27), some (n0 + 28)]), (14, 11, []), (14, 11, []), (14, 11, []), (14, 11, []), (14, 11, []), (14, 11, []), (14, 11, []), (14, 11, []), (14, 11, []), (14, 11, []), (14, 11, []), (20, 11, [some (n0 + 30), some (n0 + 31), some (n0 + 32), some (n0 + 33), some (n0 + 34), some (n0 + 35), some (n0 + 36), some (n0 + 37), some (n0 + 38), some (n0 + 39), some (n0 + 40)]), (14, 11, []), (14, 11, []), (14, 11, []), (14, 11, []), (14, 11, []), (14, 11, []), (14, 11, []), (14, 11, []), (14, 11, []), (14, 11, []), (14, 11, [])]) (cl2 := 40) (sl2 := 424) rfl rfl rfl rfl ?_
  refine wt_putF (i := 0) hp rfl dX2_init_59 ffX2_29 rfl rfl rfl (by decide) (Nat.le_of_ble_eq_true rfl) ?_
  refine wt_nrm (L2 := [some (vR n0)]) (T2 := [(2, 6, [some (n0 + 1), some (n0 + 3), some (n0 + 5), some (n0 + 17), some (n0 + 29), none]), (0, 4, [some (n0 + 2), none, none, none]), (14, 10, []), (0, 4, [some (n0 + 4), none, none, none]), (14, 10, []), (20, 11, [some (n0 + 6), some (n0 + 7), some (n0 + 8), some (n0 + 9), some (n0 + 10), some (n0 + 11), some (n0 + 12), some (n0 + 13), some (n0 + 14), some (n0 + 15), some (n0 + 16)]), (14, 11, []), (14, 11, []), (14, 11, []), (14, 11, []), (14, 11, []), (14, 11, []), (14, 11, []), (14, 11, []), (14, 11, []), (14, 11, []), (14, 11, []), (20, 11, [some (n0 + 18), some (n0 + 19), some (n0 + 20), some (n0 + 21), some (n0 + 22), some (n0 + 23), some (n0 + 24), some (n0 + 25), some (n0 + 26), some (n0 + 27), some (n0 + 28)]), (14, 11, []), (14, 11, []), (14, 11, []), (14, 11, []), (14, 11, []), (14, 11, []), (14, 11, []), (14, 11, []), (14, 11, []), (14, 11, []), (14, 11, []), (20, 11, [some (n0 + 30), some (n0 + 31), some (n0 + 32), some (n0 + 33), some (n0 + 34), some (n0 + 35), some (n0 + 36), some (n0 + 37), some (n0 + 38), some (n0 + 39), some (n0 + 40)]), (14, 11, []), (14, 11, []), (14, 11, []), (14, 11, []), (14, 11, []), (14, 11, []), (14, 11, []), (14, 11, []), (14, 11, []), (14, 11, []), (14, 11, [])]) (cl2 := 40) (sl2 := 424) rfl rfl rfl rfl ?_
  refine wp_aload_n dX2_init_62 rfl rfl ?_
  refine wp_bipush dX2_init_63 (by decide) ?_
  refine wt_newa (c := 14) (t := 41) hp rfl (by decide) dX2_init_65 nwa_int hE (by decide) ((hz).mono (by omega)) (by decide) ?_
  refine wt_nrm (L2 := [some (vR n0)]) (T2 := [(2, 6, [some (n0 + 1), some (n0 + 3), some (n0 + 5), some (n0 + 17), some (n0 + 29), none]), (0, 4, [some (n0 + 2), none, none, none]), (14, 10, []), (0, 4, [some (n0 + 4), none, none, none]), (14, 10, []), (20, 11, [some (n0 + 6), some (n0 + 7), some (n0 + 8), some (n0 + 9), some (n0 + 10), some (n0 + 11), some (n0 + 12), some (n0 + 13), some (n0 + 14), some (n0 + 15), some (n0 + 16)]), (14, 11, []), (14, 11, []), (14, 11, []), (14, 11, []), (14, 11, []), (14, 11, []), (14, 11, []), (14, 11, []), (14, 11, []), (14, 11, []), (14, 11, []), (20, 11, [some (n0 + 18), some (n0 + 19), some (n0 + 20), some (n0 + 21), some (n0 + 22), some (n0 + 23), some (n0 + 24), some (n0 + 25), some (n0 + 26), some (n0 + 27), some (n0 + 28)]), (14, 11, []), (14, 11, []), (14, 11, []), (14, 11, []), (14, 11, []), (14, 11, []), (14, 11, []), (14, 11, []), (14, 11, []), (14, 11, []), (14, 11, []), (20, 11, [some (n0 + 30), some (n0 + 31), some (n0 + 32), some (n0 + 33), some (n0 + 34), some (n0 + 35), some (n0 + 36), some (n0 + 37), some (n0 + 38), some (n0 + 39), some (n0 + 40)]), (14, 11, []), (14, 11, []), (14, 11, []), (14, 11, []), (14, 11, []), (14, 11, []), (14, 11, []), (14, 11, []), (14, 11, []), (14, 11, []), (14, 11, []), (14, 10, [])]) (cl2 := 41) (sl2 := 434) rfl rfl rfl rfl ?_
  refine wt_putF (i := 0) hp rfl dX2_init_67 ffX2_32 rfl rfl rfl (by decide) (Nat.le_of_ble_eq_true rfl) ?_
  refine wt_nrm (L2 := [some (vR n0)]) (T2 := [(2, 6, [some (n0 + 1), some (n0 + 3), some (n0 + 5), some (n0 + 17), some (n0 + 29), some (n0 + 41)]), (0, 4, [some (n0 + 2), none, none, none]), (14, 10, []), (0, 4, [some (n0 + 4), none, none, none]), (14, 10, []), (20, 11, [some (n0 + 6), some (n0 + 7), some (n0 + 8), some (n0 + 9), some (n0 + 10), some (n0 + 11), some (n0 + 12), some (n0 + 13), some (n0 + 14), some (n0 + 15), some (n0 + 16)]), (14, 11, []), (14, 11, []), (14, 11, []), (14, 11, []), (14, 11, []), (14, 11, []), (14, 11, []), (14, 11, []), (14, 11, []), (14, 11, []), (14, 11, []), (20, 11, [some (n0 + 18), some (n0 + 19), some (n0 + 20), some (n0 + 21), some (n0 + 22), some (n0 + 23), some (n0 + 24), some (n0 + 25), some (n0 + 26), some (n0 + 27), some (n0 + 28)]), (14, 11, []), (14, 11, []), (14, 11, []), (14, 11, []), (14, 11, []), (14, 11, []), (14, 11, []), (14, 11, []), (14, 11, []), (14, 11, []), (14, 11, []), (20, 11, [some (n0 + 30), some (n0 + 31), some (n0 + 32), some (n0 + 33), some (n0 + 34), some (n0 + 35), some (n0 + 36), some (n0 + 37), some (n0 + 38), some (n0 + 39), some (n0 + 40)]), (14, 11, []), (14, 11, []), (14, 11, []), (14, 11, []), (14, 11, []), (14, 11, []), (14, 11, []), (14, 11, []), (14, 11, []), (14, 11, []), (14, 11, []), (14, 10, [])]) (cl2 := 41) (sl2 := 434) rfl rfl rfl rfl ?_
  refine wp_return dX2_init_70 rfl (by decide) ⟨rfl, rfl, rfl⟩
def C5 (n : Nat) : List SC := [(5, 10, [some (n + 1), some (n + 31), some (n + 34), some (n + 38), none, none, none, none, none, none]), (7, 8, [some (n + 2), some (n + 3), some (n + 4), some (n + 5), some (n + 6), none, none, none]), (18, 4, [some (n + 7), some (n + 9), some (n + 11), some (n + 13)]), (17, 8, [some (n + 15), some (n + 17), some (n + 19), some (n + 21), some (n + 23), some (n + 25), some (n + 27), some (n + 29)]), (14, 8, []), (14, 8, []), (16, 8, []), (6, 4, [some (n + 8), none, none, none]), (14, 20, []), (6, 4, [some (n + 10), none, none, none]), (14, 20, []), (6, 4, [some (n + 12), none, none, none]), (14, 20, []), (6, 4, [some (n + 14), none, none, none]), (14, 20, []), (0, 4, [some (n + 16), none, none, none]), (14, 10, []), (0, 4, [some (n + 18), none, none, none]), (14, 10, []), (0, 4, [some (n + 20), none, none, none]), (14, 10, []), (0, 4, [some (n + 22), none, none, none]), (14, 10, []), (0, 4, [some (n + 24), none, none, none]), (14, 10, []), (0, 4, [some (n + 26), none, none, none]), (14, 10, []), (0, 4, [some (n + 28), none, none, none]), (14, 10, []), (0, 4, [some (n + 30), none, none, none]), (14, 10, []), (4, 3, [some (n + 32), some (n + 33), none]), (14, 1000, []), (14, 32, []), (3, 4, [some (n + 35), some (n + 36), some (n + 37), none]), (14, 30, []), (14, 30, []), (14, 30, []), (14, 32, [])]
theorem C5_len (n : Nat) : (C5 n).length = 39 := rfl
def C5_mem (n0 : Nat) (V : Mem) : Mem := (C4_mem (n0 + 31) V)
set_option maxRecDepth 100000 in
set_option maxHeartbeats 4000000 in
theorem ic_C5 {K : KK} (hE : kE K = true) (hZ : ∀ U H, kZ K U H → OKZ U) (d : Nat) : IC K (d + 3) mX5_init 38 1413 5 10 [] C5 C5_mem := by
  intro pre n0 V hp hz
  refine Mt.of2 (L := enL mX5_init.2.2.1 (vR n0 :: [])) rfl rfl rfl ?_
  refine wp_aload_n dX5_init_0 rfl rfl ?_
  refine wp_objInit dX5_init_1 lX5_3 (by omega) (Nat.le_of_ble_eq_true rfl) ?_
  refine wp_aload_n dX5_init_4 rfl rfl ?_
  refine wt_new (t := 1) hp rfl dX5_init_5 nw_X5_9 hE ((hz).mono (by omega)) (by decide) ?_
  refine wp_dup dX5_init_8 rfl ?_
  refine wt_init (S := [vR (n0 + 1), vR n0]) (as := []) (t := 1) hp rfl dX5_init_9 lX5_11 (ic_C7 hE hZ (d + 0)) (by omega) rfl ((hz).mono (by omega)) rfl (Nat.le_of_ble_eq_true rfl) (by decide) ?_
  refine wt_nrm (L2 := [some (vR n0)]) (T2 := [(5, 10, [none, none, none, none, none, none, none, none, none, none]), (7, 8, [some (n0 + 2), some (n0 + 3), some (n0 + 4), some (n0 + 5), some (n0 + 6), none, none, none]), (18, 4, [some (n0 + 7), some (n0 + 9), some (n0 + 11), some (n0 + 13)]), (17, 8, [some (n0 + 15), some (n0 + 17), some (n0 + 19), some (n0 + 21), some (n0 + 23), some (n0 + 25), some (n0 + 27), some (n0 + 29)]), (14, 8, []), (14, 8, []), (16, 8, []), (6, 4, [some (n0 + 8), none, none, none]), (14, 20, []), (6, 4, [some (n0 + 10), none, none, none]), (14, 20, []), (6, 4, [some (n0 + 12), none, none, none]), (14, 20, []), (6, 4, [some (n0 + 14), none, none, none]), (14, 20, []), (0, 4, [some (n0 + 16), none, none, none]), (14, 10, []), (0, 4, [some (n0 + 18), none, none, none]), (14, 10, []), (0, 4, [some (n0 + 20), none, none, none]), (14, 10, []), (0, 4, [some (n0 + 22), none, none, none]), (14, 10, []), (0, 4, [some (n0 + 24), none, none, none]), (14, 10, []), (0, 4, [some (n0 + 26), none, none, none]), (14, 10, []), (0, 4, [some (n0 + 28), none, none, none]), (14, 10, []), (0, 4, [some (n0 + 30), none, none, none]), (14, 10, [])]) (cl2 := 30) (sl2 := 252) rfl rfl rfl rfl ?_
  refine wt_putF (i := 0) hp rfl dX5_init_12 ffX5_12 rfl rfl rfl (by decide) (Nat.le_of_ble_eq_true rfl) ?_
  refine wt_nrm (L2 := [some (vR n0)]) (T2 := [(5, 10, [some (n0 + 1), none, none, none, none, none, none, none, none, none]), (7, 8, [some (n0 + 2), some (n0 + 3), some (n0 + 4), some (n0 + 5), some (n0 + 6), none, none, none]), (18, 4, [some (n0 + 7), some (n0 + 9), some (n0 + 11), some (n0 + 13)]), (17, 8, [some (n0 + 15), some (n0 + 17), some (n0 + 19), some (n0 + 21), some (n0 + 23), some (n0 + 25), some (n0 + 27), some (n0 + 29)]), (14, 8, []), (14, 8, []), (16, 8, []), (6, 4, [some (n0 + 8), none, none, none]), (14, 20, []), (6, 4, [some (n0 + 10), none, none, none]), (14, 20, []), (6, 4, [some (n0 + 12), none, none, none]), (14, 20, []), (6, 4, [some (n0 + 14), none, none, none]), (14, 20, []), (0, 4, [some (n0 + 16), none, none, none]), (14, 10, []), (0, 4, [some (n0 + 18), none, none, none]), (14, 10, []), (0, 4, [some (n0 + 20), none, none, none]), (14, 10, []), (0, 4, [some (n0 + 22), none, none, none]), (14, 10, []), (0, 4, [some (n0 + 24), none, none, none]), (14, 10, []), (0, 4, [some (n0 + 26), none, none, none]), (14, 10, []), (0, 4, [some (n0 + 28), none, none, none]), (14, 10, []), (0, 4, [some (n0 + 30), none, none, none]), (14, 10, [])]) (cl2 := 30) (sl2 := 252) rfl rfl rfl rfl ?_
  refine wp_aload_n dX5_init_15 rfl rfl ?_
  refine wt_new (t := 31) hp rfl dX5_init_16 nw_X5_18 hE ((hz).mono (by omega)) (by decide) ?_
  refine wp_dup dX5_init_19 rfl ?_
  refine wt_init (S := [vR (n0 + 31), vR n0]) (as := []) (t := 31) hp rfl dX5_init_20 lX5_20 (ic_C4 hE hZ (d + 1)) (by omega) rfl ((hz).mono (by omega)) rfl (Nat.le_of_ble_eq_true rfl) (by decide) ?_
  refine wt_nrm (L2 := [some (vR n0)]) (T2 := [(5, 10, [some (n0 + 1), none, none, none, none, none, none, none, none, none]), (7, 8, [some (n0 + 2), some (n0 + 3), some (n0 + 4), some (n0 + 5), some (n0 + 6), none, none, none]), (18, 4, [some (n0 + 7), some (n0 + 9), some (n0 + 11), some (n0 + 13)]), (17, 8, [some (n0 + 15), some (n0 + 17), some (n0 + 19), some (n0 + 21), some (n0 + 23), some (n0 + 25), some (n0 + 27), some (n0 + 29)]), (14, 8, []), (14, 8, []), (16, 8, []), (6, 4, [some (n0 + 8), none, none, none]), (14, 20, []), (6, 4, [some (n0 + 10), none, none, none]), (14, 20, []), (6, 4, [some (n0 + 12), none, none, none]), (14, 20, []), (6, 4, [some (n0 + 14), none, none, none]), (14, 20, []), (0, 4, [some (n0 + 16), none, none, none]), (14, 10, []), (0, 4, [some (n0 + 18), none, none, none]), (14, 10, []), (0, 4, [some (n0 + 20), none, none, none]), (14, 10, []), (0, 4, [some (n0 + 22), none, none, none]), (14, 10, []), (0, 4, [some (n0 + 24), none, none, none]), (14, 10, []), (0, 4, [some (n0 + 26), none, none, none]), (14, 10, []), (0, 4, [some (n0 + 28), none, none, none]), (14, 10, []), (0, 4, [some (n0 + 30), none, none, none]), (14, 10, []), (4, 3, [some (n0 + 32), some (n0 + 33), none]), (14, 1000, []), (14, 32, [])]) (cl2 := 33) (sl2 := 1287) rfl rfl rfl rfl ?_
  refine wt_putF (i := 0) hp rfl dX5_init_23 ffX5_21 rfl rfl rfl (by decide) (Nat.le_of_ble_eq_true rfl) ?_
  refine wt_nrm (L2 := [some (vR n0)]) (T2 := [(5, 10, [some (n0 + 1), some (n0 + 31), none, none, none, none, none, none, none, none]), (7, 8, [some (n0 + 2), some (n0 + 3), some (n0 + 4), some (n0 + 5), some (n0 + 6), none, none, none]), (18, 4, [some (n0 + 7), some (n0 + 9), some (n0 + 11), some (n0 + 13)]), (17, 8, [some (n0 + 15), some (n0 + 17), some (n0 + 19), some (n0 + 21), some (n0 + 23), some (n0 + 25), some (n0 + 27), some (n0 + 29)]), (14, 8, []), (14, 8, []), (16, 8, []), (6, 4, [some (n0 + 8), none, none, none]), (14, 20, []), (6, 4, [some (n0 + 10), none, none, none]), (14, 20, []), (6, 4, [some (n0 + 12), none, none, none]), (14, 20, []), (6, 4, [some (n0 + 14), none, none, none]), (14, 20, []), (0, 4, [some (n0 + 16), none, none, none]), (14, 10, []), (0, 4, [some (n0 + 18), none, none, none]), (14, 10, []), (0, 4, [some (n0 + 20), none, none, none]), (14, 10, []), (0, 4, [some (n0 + 22), none, none, none]), (14, 10, []), (0, 4, [some (n0 + 24), none, none, none]), (14, 10, []), (0, 4, [some (n0 + 26), none, none, none]), (14, 10, []), (0, 4, [some (n0 + 28), none, none, none]), (14, 10, []), (0, 4, [some (n0 + 30), none, none, none]), (14, 10, []), (4, 3, [some (n0 + 32), some (n0 + 33), none]), (14, 1000, []), (14, 32, [])]) (cl2 := 33) (sl2 := 1287) rfl rfl rfl rfl ?_
  refine wp_aload_n dX5_init_26 rfl rfl ?_
  refine wt_new (t := 34) hp rfl dX5_init_27 nw_X5_25 hE ((z_C4 ((hz).mono (by omega))).mono (by omega)) (by decide) ?_
  refine wp_dup dX5_init_30 rfl ?_
  refine wp_bipush dX5_init_31 (by decide) ?_
  refine wt_init (S := [vR (n0 + 34), vR n0]) (as := [vI 30]) (t := 34) hp rfl dX5_init_33 lX5_27 (ic_C3_30 hE hZ (d + 0)) (by omega) rfl ((z_C4 ((hz).mono (by omega))).mono (by omega)) rfl (Nat.le_of_ble_eq_true rfl) (by decide) ?_
  refine wt_nrm (L2 := [some (vR n0)]) (T2 := [(5, 10, [some (n0 + 1), some (n0 + 31), none, none, none, none, none, none, none, none]), (7, 8, [some (n0 + 2), some (n0 + 3), some (n0 + 4), some (n0 + 5), some (n0 + 6), none, none, none]), (18, 4, [some (n0 + 7), some (n0 + 9), some (n0 + 11), some (n0 + 13)]), (17, 8, [some (n0 + 15), some (n0 + 17), some (n0 + 19), some (n0 + 21), some (n0 + 23), some (n0 + 25), some (n0 + 27), some (n0 + 29)]), (14, 8, []), (14, 8, []), (16, 8, []), (6, 4, [some (n0 + 8), none, none, none]), (14, 20, []), (6, 4, [some (n0 + 10), none, none, none]), (14, 20, []), (6, 4, [some (n0 + 12), none, none, none]), (14, 20, []), (6, 4, [some (n0 + 14), none, none, none]), (14, 20, []), (0, 4, [some (n0 + 16), none, none, none]), (14, 10, []), (0, 4, [some (n0 + 18), none, none, none]), (14, 10, []), (0, 4, [some (n0 + 20), none, none, none]), (14, 10, []), (0, 4, [some (n0 + 22), none, none, none]), (14, 10, []), (0, 4, [some (n0 + 24), none, none, none]), (14, 10, []), (0, 4, [some (n0 + 26), none, none, none]), (14, 10, []), (0, 4, [some (n0 + 28), none, none, none]), (14, 10, []), (0, 4, [some (n0 + 30), none, none, none]), (14, 10, []), (4, 3, [some (n0 + 32), some (n0 + 33), none]), (14, 1000, []), (14, 32, []), (3, 4, [some (n0 + 35), some (n0 + 36), some (n0 + 37), none]), (14, 30, []), (14, 30, []), (14, 30, [])]) (cl2 := 37) (sl2 := 1381) rfl rfl rfl rfl ?_
  refine wt_putF (i := 0) hp rfl dX5_init_36 ffX5_30 rfl rfl rfl (by decide) (Nat.le_of_ble_eq_true rfl) ?_
  refine wt_nrm (L2 := [some (vR n0)]) (T2 := [(5, 10, [some (n0 + 1), some (n0 + 31), some (n0 + 34), none, none, none, none, none, none, none]), (7, 8, [some (n0 + 2), some (n0 + 3), some (n0 + 4), some (n0 + 5), some (n0 + 6), none, none, none]), (18, 4, [some (n0 + 7), some (n0 + 9), some (n0 + 11), some (n0 + 13)]), (17, 8, [some (n0 + 15), some (n0 + 17), some (n0 + 19), some (n0 + 21), some (n0 + 23), some (n0 + 25), some (n0 + 27), some (n0 + 29)]), (14, 8, []), (14, 8, []), (16, 8, []), (6, 4, [some (n0 + 8), none, none, none]), (14, 20, []), (6, 4, [some (n0 + 10), none, none, none]), (14, 20, []), (6, 4, [some (n0 + 12), none, none, none]), (14, 20, []), (6, 4, [some (n0 + 14), none, none, none]), (14, 20, []), (0, 4, [some (n0 + 16), none, none, none]), (14, 10, []), (0, 4, [some (n0 + 18), none, none, none]), (14, 10, []), (0, 4, [some (n0 + 20), none, none, none]), (14, 10, []), (0, 4, [some (n0 + 22), none, none, none]), (14, 10, []), (0, 4, [some (n0 + 24), none, none, none]), (14, 10, []), (0, 4, [some (n0 + 26), none, none, none]), (14, 10, []), (0, 4, [some (n0 + 28), none, none, none]), (14, 10, []), (0, 4, [some (n0 + 30), none, none, none]), (14, 10, []), (4, 3, [some (n0 + 32), some (n0 + 33), none]), (14, 1000, []), (14, 32, []), (3, 4, [some (n0 + 35), some (n0 + 36), some (n0 + 37), none]), (14, 30, []), (14, 30, []), (14, 30, [])]) (cl2 := 37) (sl2 := 1381) rfl rfl rfl rfl ?_
  refine wp_aload_n dX5_init_39 rfl rfl ?_
  refine wp_bipush dX5_init_40 (by decide) ?_
  refine wt_newa (c := 14) (t := 38) hp rfl (by decide) dX5_init_42 nwa_int hE (by decide) ((z_C4 ((hz).mono (by omega))).mono (by omega)) (by decide) ?_
  refine wt_nrm (L2 := [some (vR n0)]) (T2 := [(5, 10, [some (n0 + 1), some (n0 + 31), some (n0 + 34), none, none, none, none, none, none, none]), (7, 8, [some (n0 + 2), some (n0 + 3), some (n0 + 4), some (n0 + 5), some (n0 + 6), none, none, none]), (18, 4, [some (n0 + 7), some (n0 + 9), some (n0 + 11), some (n0 + 13)]), (17, 8, [some (n0 + 15), some (n0 + 17), some (n0 + 19), some (n0 + 21), some (n0 + 23), some (n0 + 25), some (n0 + 27), some (n0 + 29)]), (14, 8, []), (14, 8, []), (16, 8, []), (6, 4, [some (n0 + 8), none, none, none]), (14, 20, []), (6, 4, [some (n0 + 10), none, none, none]), (14, 20, []), (6, 4, [some (n0 + 12), none, none, none]), (14, 20, []), (6, 4, [some (n0 + 14), none, none, none]), (14, 20, []), (0, 4, [some (n0 + 16), none, none, none]), (14, 10, []), (0, 4, [some (n0 + 18), none, none, none]), (14, 10, []), (0, 4, [some (n0 + 20), none, none, none]), (14, 10, []), (0, 4, [some (n0 + 22), none, none, none]), (14, 10, []), (0, 4, [some (n0 + 24), none, none, none]), (14, 10, []), (0, 4, [some (n0 + 26), none, none, none]), (14, 10, []), (0, 4, [some (n0 + 28), none, none, none]), (14, 10, []), (0, 4, [some (n0 + 30), none, none, none]), (14, 10, []), (4, 3, [some (n0 + 32), some (n0 + 33), none]), (14, 1000, []), (14, 32, []), (3, 4, [some (n0 + 35), some (n0 + 36), some (n0 + 37), none]), (14, 30, []), (14, 30, []), (14, 30, []), (14, 32, [])]) (cl2 := 38) (sl2 := 1413) rfl rfl rfl rfl ?_
  refine wt_putF (i := 0) hp rfl dX5_init_44 ffX5_34 rfl rfl rfl (by decide) (Nat.le_of_ble_eq_true rfl) ?_
  refine wt_nrm (L2 := [some (vR n0)]) (T2 := [(5, 10, [some (n0 + 1), some (n0 + 31), some (n0 + 34), some (n0 + 38), none, none, none, none, none, none]), (7, 8, [some (n0 + 2), some (n0 + 3), some (n0 + 4), some (n0 + 5), some (n0 + 6), none, none, none]), (18, 4, [some (n0 + 7), some (n0 + 9), some (n0 + 11), some (n0 + 13)]), (17, 8, [some (n0 + 15), some (n0 + 17), some (n0 + 19), some (n0 + 21), some (n0 + 23), some (n0 + 25), some (n0 + 27), some (n0 + 29)]), (14, 8, []), (14, 8, []), (16, 8, []), (6, 4, [some (n0 + 8), none, none, none]), (14, 20, []), (6, 4, [some (n0 + 10), none, none, none]), (14, 20, []), (6, 4, [some (n0 + 12), none, none, none]), (14, 20, []), (6, 4, [some (n0 + 14), none, none, none]), (14, 20, []), (0, 4, [some (n0 + 16), none, none, none]), (14, 10, []), (0, 4, [some (n0 + 18), none, none, none]), (14, 10, []), (0, 4, [some (n0 + 20), none, none, none]), (14, 10, []), (0, 4, [some (n0 + 22), none, none, none]), (14, 10, []), (0, 4, [some (n0 + 24), none, none, none]), (14, 10, []), (0, 4, [some (n0 + 26), none, none, none]), (14, 10, []), (0, 4, [some (n0 + 28), none, none, none]), (14, 10, []), (0, 4, [some (n0 + 30), none, none, none]), (14, 10, []), (4, 3, [some (n0 + 32), some (n0 + 33), none]), (14, 1000, []), (14, 32, []), (3, 4, [some (n0 + 35), some (n0 + 36), some (n0 + 37), none]), (14, 30, []), (14, 30, []), (14, 30, []), (14, 32, [])]) (cl2 := 38) (sl2 := 1413) rfl rfl rfl rfl ?_
  refine wp_return dX5_init_47 rfl (by decide) ⟨rfl, rfl, rfl⟩
