/-! ===== the law: weight's case, the switch, the loop ===== -/
/-- Inv with its numbers -/
def InvP (V : Mem) (P : Nat → Int × Int) (n R B S BT : Nat) : Prop := TapeC V ∧ KwC V ∧ ToldC V R BT ∧ LawC V P n ∧ Live V R B S ∧ MkC V R ∧ HsC V R ∧ LnC V R BT ∧ V 0 17 = V 369 19
theorem InvP.fr4 {V V' : Mem} {P : Nat → Int × Int} {n R B S BT : Nat} (hI : InvP V P n R B S BT) (e : ∀ c, c ≠ 137 → c ≠ 401 → V' c = V c) : InvP V' P n R B S BT := by
  obtain ⟨hT, hK, hTo, hLw, hL, hM, hH, hLn, hmd⟩ := hI
  have hR := hTo.1.2.2.1
  exact ⟨hT.congr (by rw [e 1 (by omega) (by omega)]) (e 2 (by omega) (by omega)) (e 370 (by omega) (by omega)) (by rw [e 369 (by omega) (by omega)]), hK.congr (e 3 (by omega) (by omega)) (e 374 (by omega) (by omega)), hTo.congr (fun c q1 q2 => e c (by omega) (by omega)) (e 375 (by omega) (by omega)) (e 377 (by omega) (by omega)), hLw.congr (e 135 (by omega) (by omega)) (e 136 (by omega) (by omega)) (by rw [e 375 (by omega) (by omega)]) (fun j _ => by rw [e 376 (by omega) (by omega)]), hL.congr (fun c q1 q2 => e c (by omega) (by omega)) (e 375 (by omega) (by omega)) (fun i _ => by rw [e 381 (by omega) (by omega)]), hM.congr (e 134 (by omega) (by omega)) (e 382 (by omega) (by omega)) (e 375 (by omega) (by omega)) (fun c q1 q2 => e c (by omega) (by omega)) (fun j _ _ => by rw [e 381 (by omega) (by omega)]), hH.congr hR (fun c q1 q2 => e c (by omega) (by omega)) (by rw [e 369 (by omega) (by omega)]) (fun j _ => by rw [e 381 (by omega) (by omega)]), hLn.congr (fun c q1 q2 => e c (by omega) (by omega)) (e 378 (by omega) (by omega)), by rw [e 0 (by omega) (by omega), e 369 (by omega) (by omega)]; exact hmd⟩
theorem InvP.core {V : Mem} {P : Nat → Int × Int} {n R B S BT : Nat} (h : InvP V P n R B S BT) : Icore P n R V := Icore.of h.2.2.1 h.2.2.2.1 h.2.2.2.2.1
theorem InvP.inv {V : Mem} {P : Nat → Int × Int} {n R B S BT : Nat} (h : InvP V P n R B S BT) : Inv V := ⟨P, n, R, B, S, BT, h⟩
theorem plC_eq {V V1 : Mem} {r p : Int} (h1 : V1 375 = V 375) (h2 : V1 381 = V 381) : plC V1 r p ↔ plC V r p := by
  delta plC
  rw [h1, h2]
theorem wR_eq {V V1 : Mem} {P : Nat → Int × Int} {n r p : Nat} (h1 : V1 375 = V 375) (h2 : V1 381 = V 381) : wR P n V1 r p = wR P n V r p := by
  unfold wR
  rw [h1, h2]
theorem lcmp_eq (x : Int) : b_lcmp x x = 0 := by
  unfold b_lcmp
  rw [if_neg (Int.lt_irrefl x), if_pos rfl]
theorem nz01 {x : Int} : (if x = 0 then (0 : Int) else 1) = 0 ∨ (if x = 0 then (0 : Int) else 1) = 1 := by
  by_cases h : x = 0
  · rw [if_pos h]; exact Or.inl rfl
  · rw [if_neg h]; exact Or.inr rfl
theorem TSg.at {K : KK} {adK adV : Nat → Nat} {k : Nat} (hz : ∀ U H, kZ K U H → SZ adK adV (kB K) U H) (hk : 4 ≤ k) : TSg K k := by
  obtain ⟨d, rfl⟩ : ∃ d, k = d + 4 := ⟨k - 4, by omega⟩
  exact tsg_ok hz
section LWL
variable {K : KK} {mc ms : Nat} {cl sl : Nat} {V : Mem} {Q : Option AV → List SC → Mem → Prop} {j sa : Nat} {adK adV : Nat → Nat} {nm : String}
theorem lw_c5 (hE : kE K = false) (hl : (kL K).stackTraces = false) (hz : ∀ U H, kZ K U H → EZ sa (kB K) U H) (hI : Inv V) (hj : 7 * j + 7 ≤ kN K) (hN : kN K ≤ 3584) (hm : cl + 1 ≤ mc ∧ sl + 6 ≤ ms) (hk : ∀ V2, Inv V2 → Wp K 2048 (mL nm) mc ms 2076 [some vS, some (vR 0), some (vR 369), some (vR 401), some (vI ((7 * j : Nat) : Int)), none, none] [] (cl + 1) (sl + 6) SH V2 Q) : Wp K 2048 (mL nm) mc ms 475 [some vS, some (vR 0), some (vR 369), some (vR 401), some (vI ((7 * j : Nat) : Int)), none, none] [] cl sl SH V Q := by
  obtain ⟨P, n, R, B, S, BT, hP⟩ := hI
  have hP : InvP V P n R B S BT := hP
  refine wp_aload_n dL_law_475 rfl rfl ?_
  refine wl_arg (n := 1) dL_law_476 dL_law_477 dL_law_479 dL_law_480 dL_law_481 rfl rfl (by decide) hj hN ?_
  refine wl_arg (n := 2) dL_law_482 dL_law_483 dL_law_485 dL_law_486 dL_law_487 rfl rfl (by decide) hj hN ?_
  refine wp_aload_n dL_law_488 rfl rfl ?_
  generalize hr : sc K (7 * j + 1) = r
  generalize hp : sc K (7 * j + 2) = p
  refine wl_weight (d' := 100 + 7) (S := []) (as := [vR 0, vI r, vI p, vR 401]) rfl dL_law_489 (l_weight (d := 100) hE hl hz hP.core r p) (by decide) rfl rfl (Nat.le_of_ble_eq_true rfl) hm (fun z V1 hq => ?_)
  show Wp _ _ _ _ _ 492 _ [vI z] _ _ _ _ _
  have e1 : ∀ c, c ≠ 137 → c ≠ 401 → V1 c = V c := by
    rcases hq with ⟨-, -, -, q⟩ | ⟨-, -, rfl⟩
    · exact q
    · exact fun _ _ _ => rfl
  have hP1 := hP.fr4 e1
  have hpl : plC V1 r p ↔ plC V r p := plC_eq (e1 375 (by omega) (by omega)) (e1 381 (by omega) (by omega))
  refine wp_istore dL_law_492 (show 5 < 7 by decide) rfl ?_
  refine wp_aload_n dL_law_494 rfl rfl ?_
  refine wl_arg (n := 1) dL_law_495 dL_law_496 dL_law_498 dL_law_499 dL_law_500 rfl rfl (by decide) hj hN ?_
  refine wl_arg (n := 2) dL_law_501 dL_law_502 dL_law_504 dL_law_505 dL_law_506 rfl rfl (by decide) hj hN ?_
  rw [hr, hp]
  refine wp_callV (d' := 100 + 4) (mc' := 0) (ms' := 0) (S := []) (as := [vI r, vI p]) dL_law_507 lL_48 (m_weight (d := 100) hP1.core r p) (by decide) sh369 rfl rfl (Nat.le_of_ble_eq_true rfl) hm (fun r9 sh1 V2 q => ?_)
  obtain ⟨rfl, b, rfl, f2, e2⟩ := q
  show Wp _ _ _ _ _ 510 _ [vI b] (cl + 1) (sl + 6) _ _ _
  have hI2 : Inv V2 := no_deed hP1.inv f2
  have e401 : V2 401 = V1 401 := f2.1 401 (by omega) (by omega)
  refine wp_istore dL_law_510 (show 6 < 7 by decide) rfl ?_
  refine wp_aload_n dL_law_512 rfl rfl ?_
  refine wp_callV (d' := 100) (mc' := 0) (ms' := 0) (S := []) (as := []) dL_law_513 lL_49 (sX12_thrown (Q := fun r V' => r = some (vI (V2 369 0)) ∧ V' = V2) ⟨rfl, rfl⟩) (by decide) sh369 rfl rfl (Nat.le_of_ble_eq_true rfl) hm (fun r9 sh2 V3 q => ?_)
  obtain ⟨rfl, rfl, rfl⟩ := q
  show Wp _ _ _ _ _ 516 _ [vI (V3 369 0)] (cl + 1) (sl + 6) _ _ _
  have hzz : V3 369 0 = z ∧ (z = 0 → V3 401 0 = b) := by
    rcases hq with ⟨q1, rfl, q3, -⟩ | ⟨q1, rfl, -⟩
    · rcases e2 with ⟨q4, q5, q6⟩ | ⟨q4, -⟩
      · refine ⟨q5, fun _ => ?_⟩
        rw [e401, q3, q6]
        exact (wR_eq (e1 375 (by omega) (by omega)) (e1 381 (by omega) (by omega))).symm
      · exact absurd (hpl.mpr q1) q4
    · rcases e2 with ⟨q4, -⟩ | ⟨-, q5⟩
      · exact absurd (hpl.mp q4) q1
      · exact ⟨q5, fun c => absurd c (by decide)⟩
  refine wp_iload dL_law_516 rfl ?_
  refine wp_icmp_eq (tgt := 523) dL_law_518 rfl (fun _ => ?_) (fun c => absurd hzz.1 c)
  refine wp_iload dL_law_523 rfl ?_
  have fin : Wp K 2048 (mL nm) mc ms 540 [some vS, some (vR 0), some (vR 369), some (vR 401), some (vI ((7 * j : Nat) : Int)), some (vI z), some (vI b)] [] (cl + 1) (sl + 6) SH V3 Q := by
    refine wp_goto (tgt := 2076) dL_law_540 rfl ?_
    exact wp_loc (L2 := [some vS, some (vR 0), some (vR 369), some (vR 401), some (vI ((7 * j : Nat) : Int)), none, none]) ⟨rfl, rfl, rfl, rfl, rfl, trivial⟩ (hk V3 hI2)
  refine wp_if_ne (tgt := 540) dL_law_525 rfl (fun _ => fin) (fun c => ?_)
  refine wp_aload_n dL_law_528 rfl rfl ?_
  refine wp_iconst dL_law_529 (by decide) ?_
  refine wp_lald dL_law_530 sh401 ⟨by decide, by decide⟩ ?_
  refine wp_iload dL_law_531 rfl ?_
  refine wp_i2l dL_law_533 ?_
  refine wp_lcmp dL_law_534 ?_
  refine wp_if_eq (tgt := 540) dL_law_535 rfl (fun _ => fin) (fun c2 => absurd ?_ c2)
  have e9 : V3 401 (Int.toNat 0) = b := hzz.2 c
  rw [e9]
  exact lcmp_eq b
theorem lw_switch (hE : kE K = false) (hl : (kL K).stackTraces = false) (hzE : ∀ U H, kZ K U H → EZ sa (kB K) U H) (hzS : ∀ U H, kZ K U H → SZ adK adV (kB K) U H) (hI : Inv V) (hj : 7 * j + 7 ≤ kN K) (hN : kN K ≤ 3584) (hm : cl + 1 ≤ mc ∧ sl + 6 ≤ ms) (hk : ∀ V2, Inv V2 → Wp K 2048 (mL nm) mc ms 2076 [some vS, some (vR 0), some (vR 369), some (vR 401), some (vI ((7 * j : Nat) : Int)), none, none] [] (cl + 1) (sl + 6) SH V2 Q) (x : Int) : Wp K 2048 (mL nm) mc ms 40 [some vS, some (vR 0), some (vR 369), some (vR 401), some (vI ((7 * j : Nat) : Int)), none, none] [vI x] cl sl SH V Q := by
  have hm0 : cl ≤ mc ∧ sl ≤ ms := ⟨by omega, by omega⟩
  have hk0 : ∀ V2, Inv V2 → Wp K 2048 (mL nm) mc ms 2076 [some vS, some (vR 0), some (vR 369), some (vR 401), some (vI ((7 * j : Nat) : Int)), none, none] [] cl sl SH V2 Q := fun V2 h => wp_widen (Nat.le_succ _) (Nat.le_add_right _ _) (hk V2 h)
  by_cases hx : x < 0 ∨ 42 < x
  · exact wp_tswOut (tgt := 2076) dL_law_40 hx rfl (hk0 V hI)
  have ho : x = 0 ∨ x = 1 ∨ x = 2 ∨ x = 3 ∨ x = 4 ∨ x = 5 ∨ x = 6 ∨ x = 7 ∨ x = 8 ∨ x = 9 ∨ x = 10 ∨ x = 11 ∨ x = 12 ∨ x = 13 ∨ x = 14 ∨ x = 15 ∨ x = 16 ∨ x = 17 ∨ x = 18 ∨ x = 19 ∨ x = 20 ∨ x = 21 ∨ x = 22 ∨ x = 23 ∨ x = 24 ∨ x = 25 ∨ x = 26 ∨ x = 27 ∨ x = 28 ∨ x = 29 ∨ x = 30 ∨ x = 31 ∨ x = 32 ∨ x = 33 ∨ x = 34 ∨ x = 35 ∨ x = 36 ∨ x = 37 ∨ x = 38 ∨ x = 39 ∨ x = 40 ∨ x = 41 ∨ x = 42 := by omega
  rcases ho with h | h | h | h | h | h | h | h | h | h | h | h | h | h | h | h | h | h | h | h | h | h | h | h | h | h | h | h | h | h | h | h | h | h | h | h | h | h | h | h | h | h | h
  · subst h
    exact wp_tswIn (tgt := 228) dL_law_40 (by decide) (by decide) rfl rfl (lw_c0 (d := 100 + 2) (by decide) hj hN hm0 (st_feed (d := 100) hI _ _ _) hk0)
  · subst h
    exact wp_tswIn (tgt := 375) dL_law_40 (by decide) (by decide) rfl rfl (lw_c1 (d := 100 + 34) (by decide) hj hN hm0 (st_index (d := 100) hE (fun e => TSg.at hzS (by omega)) hI) hk0)
  · subst h
    exact wp_tswIn (tgt := 388) dL_law_40 (by decide) (by decide) rfl rfl (lw_c2 (d := 100 + 6) (by decide) hj hN hm0 (st_work (d := 100) (fun e => TSg.at hzS (by omega)) hI) hk0)
  · subst h
    exact wp_tswIn (tgt := 401) dL_law_40 (by decide) (by decide) rfl rfl (lw_c3 (d := 100 + 7) (by decide) hj hN hm0 (st_row (d := 100) hI _ _) hk0)
  · subst h
    exact wp_tswIn (tgt := 438) dL_law_40 (by decide) (by decide) rfl rfl (lw_c4 (d := 100 + 7) (by decide) hj hN hm0 (st_item (d := 100) hI _ _) hk0)
  · subst h
    exact wp_tswIn (tgt := 475) dL_law_40 (by decide) (by decide) rfl rfl (lw_c5 hE hl hzE hI hj hN hm hk)
  · subst h
    exact wp_tswIn (tgt := 543) dL_law_40 (by decide) (by decide) rfl rfl (lw_c6 (d := 100 + 7) (by decide) hj hN hm0 (st_braid (d := 100) hI _ _) hk0)
  · subst h
    exact wp_tswIn (tgt := 580) dL_law_40 (by decide) (by decide) rfl rfl (lw_c7 (d := 100 + 3) (by decide) hj hN hm0 (st_append (d := 100) hI _ _) hk0)
  · subst h
    exact wp_tswIn (tgt := 617) dL_law_40 (by decide) (by decide) rfl rfl (lw_c8 (d := 100 + 3) (by decide) hj hN hm0 (st_cut (d := 100) hI _) hk0)
  · subst h
    exact wp_tswIn (tgt := 642) dL_law_40 (by decide) (by decide) rfl rfl (lw_c9 (d := 100 + 3) (by decide) hj hN hm0 (st_turn (d := 100) hI _) hk0)
  · subst h
    exact wp_tswIn (tgt := 667) dL_law_40 (by decide) (by decide) rfl rfl (lw_c10 (d := 100 + 4) (by decide) hj hN hm0 (st_cross (d := 100) hI _ _) hk0)
  · subst h
    exact wp_tswIn (tgt := 704) dL_law_40 (by decide) (by decide) rfl rfl (lw_c11 (d := 100 + 5) (by decide) hj hN hm0 (st_keep (d := 100) hI _ _) hk0)
  · subst h
    exact wp_tswIn (tgt := 741) dL_law_40 (by decide) (by decide) rfl rfl (lw_c12 (d := 100 + 3) (by decide) hj hN hm0 (st_undo (d := 100) hI) hk0)
  · subst h
    exact wp_tswIn (tgt := 754) dL_law_40 (by decide) (by decide) rfl rfl (lw_c13 (d := 100 + 5) (by decide) hj hN hm0 (st_judged (d := 100) hI hE _) hk0)
  · subst h
    exact wp_tswIn (tgt := 779) dL_law_40 (by decide) (by decide) rfl rfl (lw_c14 (d := 100 + 7) (by decide) hj hN hm0 (st_chain (d := 100) hI _ _ _) hk0)
  · subst h
    exact wp_tswIn (tgt := 828) dL_law_40 (by decide) (by decide) rfl rfl (lw_c15 (d := 100 + 7) (by decide) hj hN hm0 (st_pick (d := 100) hI _ _ _ _) hk0)
  · subst h
    exact wp_tswIn (tgt := 889) dL_law_40 (by decide) (by decide) rfl rfl (lw_c16 (d := 100 + 7) (by decide) hj hN hm0 (st_ways (d := 100) hI _ _ _) hk0)
  · subst h
    exact wp_tswIn (tgt := 938) dL_law_40 (by decide) (by decide) rfl rfl (lw_c17 (d := 100 + 7) (by decide) hj hN hm0 (st_must (d := 100) hI _ _ _) hk0)
  · subst h
    exact wp_tswIn (tgt := 987) dL_law_40 (by decide) (by decide) rfl rfl (lw_c18 (d := 100 + 7) (by decide) hj hN hm0 (st_may (d := 100) hI _ _ _) hk0)
  · subst h
    exact wp_tswIn (tgt := 1036) dL_law_40 (by decide) (by decide) rfl rfl (lw_c19 (d := 100 + 7) (by decide) hj hN hm0 (st_bare (d := 100) hI _ _ _) hk0)
  · subst h
    exact wp_tswIn (tgt := 1085) dL_law_40 (by decide) (by decide) rfl rfl (lw_c20 (d := 100 + 7) (by decide) hj hN hm0 (st_strand (d := 100) hI _ _) hk0)
  · subst h
    exact wp_tswIn (tgt := 1122) dL_law_40 (by decide) (by decide) rfl rfl (lw_c21 (d := 100 + 7) (by decide) hj hN hm0 (st_under (d := 100) hI _ _ _) hk0)
  · subst h
    exact wp_tswIn (tgt := 1171) dL_law_40 (by decide) (by decide) rfl rfl (lw_c22 (d := 100 + 7) (by decide) hj hN hm0 (st_how (d := 100) hI _ _) hk0)
  · subst h
    exact wp_tswIn (tgt := 1208) dL_law_40 (by decide) (by decide) rfl rfl (lw_c23 (d := 100 + 7) (by decide) hj hN hm0 (st_best (d := 100) hI _ _) hk0)
  · subst h
    exact wp_tswIn (tgt := 1245) dL_law_40 (by decide) (by decide) rfl rfl (lw_c24 (d := 100 + 7) (by decide) hj hN hm0 (st_near (d := 100) hI _ _) hk0)
  · subst h
    exact wp_tswIn (tgt := 1282) dL_law_40 (by decide) (by decide) rfl rfl (lw_c25 (d := 100 + 7) (by decide) hj hN hm0 (st_piles (d := 100) hI _ _ _ _) hk0)
  · subst h
    exact wp_tswIn (tgt := 1343) dL_law_40 (by decide) (by decide) rfl rfl (lw_c26 (d := 100 + 7) (by decide) hj hN hm0 (st_shape (d := 100) hI _ _ _ _) hk0)
  · subst h
    exact wp_tswIn (tgt := 1404) dL_law_40 (by decide) (by decide) rfl rfl (lw_c27 (d := 100 + 7) (by decide) hj hN hm0 (st_ends (d := 100) hI _ _) hk0)
  · subst h
    exact wp_tswIn (tgt := 1441) dL_law_40 (by decide) (by decide) rfl rfl (lw_c28 (d := 100 + 7) (by decide) hj hN hm0 (st_counts (d := 100) hI _ _ _) hk0)
  · subst h
    exact wp_tswIn (tgt := 1490) dL_law_40 (by decide) (by decide) rfl rfl (lw_c29 (d := 100 + 7) (by decide) hj hN hm0 (st_compose (d := 100) hI _ _ _) hk0)
  · subst h
    exact wp_tswIn (tgt := 1539) dL_law_40 (by decide) (by decide) rfl rfl (lw_c30 (d := 100 + 7) (by decide) hj hN hm0 (st_power (d := 100) hI hE _ _ _) hk0)
  · subst h
    exact wp_tswIn (tgt := 1588) dL_law_40 (by decide) (by decide) rfl rfl (lw_c31 (d := 100 + 7) (by decide) hj hN hm0 (st_settles (d := 100) hI hE _) hk0)
  · subst h
    exact wp_tswIn (tgt := 1613) dL_law_40 (by decide) (by decide) rfl rfl (lw_c32 (d := 100 + 7) (by decide) hj hN hm0 (st_knit (d := 100) hI _ _) hk0)
  · subst h
    exact wp_tswIn (tgt := 1650) dL_law_40 (by decide) (by decide) rfl rfl (lw_c33 (d := 100 + 7) (by decide) hj hN hm0 (st_below (d := 100) hI _ _) hk0)
  · subst h
    exact wp_tswIn (tgt := 1687) dL_law_40 (by decide) (by decide) rfl rfl (lw_c34 (d := 100 + 7) (by decide) hj hN hm0 (st_common (d := 100) hI _ _ _ _) hk0)
  · subst h
    exact wp_tswIn (tgt := 1748) dL_law_40 (by decide) (by decide) rfl rfl (lw_c35 (d := 100 + 7) (by decide) hj hN hm0 (st_meets (d := 100) hI _ _ _) hk0)
  · subst h
    exact wp_tswIn (tgt := 1797) dL_law_40 (by decide) (by decide) rfl rfl (lw_c36 (d := 100 + 2) (by decide) hj hN hm0 (st_see (d := 100) hI _ _ _ nz01) hk0)
  · subst h
    exact wp_tswIn (tgt := 1862) dL_law_40 (by decide) (by decide) rfl rfl (lw_c37 (d := 100 + 7) (by decide) hj hN hm0 (st_fits (d := 100) hI _) hk0)
  · subst h
    exact wp_tswIn (tgt := 1887) dL_law_40 (by decide) (by decide) rfl rfl (lw_c38 (d := 100 + 7) (by decide) hj hN hm0 (st_first (d := 100) hI _) hk0)
  · subst h
    exact wp_tswIn (tgt := 1912) dL_law_40 (by decide) (by decide) rfl rfl (lw_c39 (d := 100 + 7) (by decide) hj hN hm0 (st_ask (d := 100) hI _) hk0)
  · subst h
    exact wp_tswIn (tgt := 1937) dL_law_40 (by decide) (by decide) rfl rfl (lw_c40 (d := 100 + 7) (by decide) hj hN hm0 (st_drawn (d := 100) hI _ _ _ _) hk0)
  · subst h
    exact wp_tswIn (tgt := 1998) dL_law_40 (by decide) (by decide) rfl rfl (lw_c41 (d := 100 + 3) (by decide) hj hN hm0 (st_mark (d := 100) hI hE _ _) hk0)
  · subst h
    exact wp_tswIn (tgt := 2051) dL_law_40 (by decide) (by decide) rfl rfl (lw_c42 (d := 100 + 7) (by decide) hj hN hm0 (st_count (d := 100) hI _) hk0)
theorem lw_loop (hE : kE K = false) (hl : (kL K).stackTraces = false) (hzE : ∀ U H, kZ K U H → EZ sa (kB K) U H) (hzS : ∀ U H, kZ K U H → SZ adK adV (kB K) U H) (hN : kN K ≤ 3584) {c0 s0 : Nat} (hc : c0 + 513 ≤ mc ∧ s0 + 3078 ≤ ms) (hQ : ∀ V, Q (some (vI 1)) SH V) : ∀ (f j : Nat) (V : Mem), Inv V → 7 * j ≤ kN K → kN K < 7 * j + 7 * (f + 1) → Wp K 2048 (mL nm) mc ms 23 [some vS, some (vR 0), some (vR 369), some (vR 401), some (vI ((7 * j : Nat) : Int)), none, none] [] (c0 + j) (s0 + 6 * j) SH V Q := by
  intro f
  induction f with
  | zero =>
    intro j V hI h1 h2
    refine wp_iload dL_law_23 rfl ?_
    refine wp_aload_nS dL_law_25 rfl rfl ?_
    refine wp_slen dL_law_26 (by omega) ?_
    refine wp_bipush dL_law_27 (by decide) ?_
    refine wp_isub dL_law_29 ?_
    rw [w32_id (x := (kN K : Int) - 7) (by omega) (by omega)]
    refine wp_icmp_gt (tgt := 2082) dL_law_30 rfl (fun _ => ?_) (fun c => absurd (show (kN K : Int) - 7 < ((7 * j : Nat) : Int) by omega) c)
    refine wp_widen (k := mc) (n := ms) (by omega) (by omega) ?_
    refine wp_iconst dL_law_2082 (by decide) ?_
    exact wp_zreturn dL_law_2083 rfl ⟨rfl, rfl⟩ (Or.inr rfl) (hQ V)
  | succ f ih =>
    intro j V hI h1 h2
    refine wp_iload dL_law_23 rfl ?_
    refine wp_aload_nS dL_law_25 rfl rfl ?_
    refine wp_slen dL_law_26 (by omega) ?_
    refine wp_bipush dL_law_27 (by decide) ?_
    refine wp_isub dL_law_29 ?_
    rw [w32_id (x := (kN K : Int) - 7) (by omega) (by omega)]
    refine wp_icmp_gt (tgt := 2082) dL_law_30 rfl (fun _ => ?_) (fun c => ?_)
    · refine wp_widen (k := mc) (n := ms) (by omega) (by omega) ?_
      refine wp_iconst dL_law_2082 (by decide) ?_
      exact wp_zreturn dL_law_2083 rfl ⟨rfl, rfl⟩ (Or.inr rfl) (hQ V)
    · have hj : 7 * j + 7 ≤ kN K := by omega
      refine wp_aload_nS dL_law_33 rfl rfl ?_
      refine wp_iload dL_law_34 rfl ?_
      refine wp_sld dL_law_36 ⟨by omega, by omega⟩ ?_
      refine wp_bipush dL_law_37 (by decide) ?_
      refine wp_iand dL_law_39 ?_
      refine lw_switch hE hl hzE hzS hI hj hN ⟨by omega, by omega⟩ (fun V2 hI2 => ?_) _
      refine wp_iinc dL_law_2076 rfl rfl ?_
      refine wp_goto (tgt := 23) dL_law_2079 rfl ?_
      have e : w32 (((7 * j : Nat) : Int) + 7) = ((7 * (j + 1) : Nat) : Int) := by rw [w32_id (by omega) (by omega)]; omega
      rw [e]
      exact ih (j + 1) V2 hI2 (by omega) (by omega)
end LWL
