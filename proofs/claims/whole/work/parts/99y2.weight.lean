/-! ===== the class's weight: it returns or throws ===== -/
def NGW : List Cond := [.castable NSE NSE, .declares (Bundle.initS "java/lang/RuntimeException"), .declares (Bundle.initS "java/lang/Exception"), .declares (Bundle.initS Bundle.tN)]
abbrev atSl : List Cond := tx_at RX11 171 NSE 13 prog_29_method_4_code "java/lang/RuntimeException" ["java/lang/Exception"]
theorem nse_D : tx_D prog_29_method_4_code 13 := ⟨by decide +kernel, by decide +kernel, by decide +kernel, by decide +kernel⟩
theorem nse_N : tx_N NSE "java/lang/RuntimeException" ["java/lang/Exception"] := by unfold tx_N; decide +kernel
/-- what is known of what is thrown -/
def EZ (sa B : Nat) (U : State) (H : Heap) : Prop := (∀ w ∈ NGW, w.before #[] U = true) ∧ vk_R "ChainIndex" 169 "no such place" sa U ∧ vx_Zq Bundle.tN "UNASSIGNED_STACK" Bundle.steD (fun q => B ≤ q) U H ∧ vx_Zq Bundle.tN "SUPPRESSED_SENTINEL" Bundle.listD (fun q => B ≤ q) U H
theorem atS_in : ∀ w ∈ atSl.filter goodWord, w ∈ lw_tbl := by decide +kernel
theorem atS_tb : ∀ w ∈ atSl.filter goodWord, w ∈ tb := fun w hw => tb_of (atS_in w hw) (List.mem_filter.mp hw).2
theorem atS_rest : ∀ w ∈ atSl.filter (fun w => !goodWord w), w ∈ NGW := by decide +kernel
theorem atS_ot : ∀ w ∈ Cond.classLink RX11 167 NSE :: Cond.initialized NSE :: atSl, vx_ot w = true := by decide +kernel
theorem ngw_ot : ∀ w ∈ NGW, w.onTables = true := by decide +kernel
theorem Rel.grow {K : KK} {V : Mem} {sh : List SC} {H H1 : Heap} (hR : Rel K sh V H) (hE : kE K = false) (o : ∀ q, q < H.size → H1[q]? = H[q]?) : Rel K sh V H1 :=
  ⟨hR.1.kept (fun k x hx => o x.1 ((hR.1 k x hx).lt)), hR.2.1, fun q => by rw [hE] at q; cases q⟩
def XO (K : KK) (QX : Mem → Prop) : String → State → State → Prop := fun E st t => E = NSE ∧ (∃ V', Rel K SH V' t.heap ∧ QX V') ∧ va_F (kA K) st t
abbrev QW (Q : Int → Mem → Prop) : Option AV → List SC → Mem → Prop := fun r sh' V' => sh' = SH ∧ ∃ z, r = some (vI z) ∧ Q z V'
def MXw (K : KK) (d : Nat) (y : MI) (as : List AV) (V : Mem) (Q : Int → Mem → Prop) (QX : Mem → Prop) : Prop :=
  vx_Met (kL K) y.1 (Cond.code y.1 y.2.1 y.2.2.1 y.2.2.2 :: tb) (rmO d 1 6) (PcO K as SH V) (QcO K (QW Q)) (XO K QX) 1 6 (kA K)
def GX (K : KK) (Q : Int → Mem → Prop) (QX : Mem → Prop) : EG := fun _ _ s _ args below _ c t => (∀ x ∈ c.exceptionTable.toList, False) → vx_MQ below (QcO K (QW Q)) (XO K QX) args s 1 6 (kA K) t
section WXA
variable {K : KK} {d : Nat} {y : MI} {pc : Nat} {L : List (Option AV)} {S as : List AV} {cl sl : Nat} {V : Mem} {Q : Int → Mem → Prop} {QX : Mem → Prop}
theorem MXw.of (hy : plainName y.1.cls = true) (hn : Nat.ble (as.flatMap enF).length y.2.2.1 = true) (hL : enL y.2.2.1 as = L) (h : WgE K d y 1 6 0 L [] 0 0 SH V (GX K Q QX)) : MXw K d y as V Q QX := by
  subst hL
  refine vx_ofW (cc := y.2.1) (maxL := y.2.2.1) (ret := y.2.2.2) hy rfl ?_
  intro p e s m args below meth c s₁ B hml hx hv
  obtain ⟨rfl, hok, hR, hK, hB, hX, hlt, hO⟩ := hv
  have hts := atoms_spec (ws := Cond.code y.1 y.2.1 y.2.2.1 y.2.2.2 :: tb) B.pre
  rw [lg_entry_eq]
  intro T hT X
  obtain ⟨t, a1, b1⟩ := h p e s m _ below meth c s.heap [] _ ⟨B.exec, B.bytes, B.returns, hml, findClass_of_methodNamed B.named, fun w hw => hts w (List.mem_cons_of_mem _ hw), B.notSynchronized, hK, hB, ⟨hX, hlt⟩, (name_of_methodNamed B.named B.method).1, hO⟩ hR va_S.rf (enL_P hok (Nat.le_of_ble_eq_true hn)) (fun v h => by cases h) T hT X
  exact ⟨t, a1, b1 hx⟩
theorem WgE.ofX (h : Wp K d y 1 6 pc L S cl sl SH V (QW Q)) : WgE K d y 1 6 pc L S cl sl SH V (GX K Q QX) := by
  intro p e s m args below meth c H locs ls hC hR hS hL hV T hT X
  obtain ⟨t, a1, o, b1, b2, b3, b4⟩ := h p e s m args below meth c H locs ls hC hR hS hL hV T hT X
  exact ⟨t, a1, fun _ => ⟨o, b1, b2, Or.inl ⟨b3, b4⟩⟩⟩
theorem wp_widen {mc ms k n : Nat} {sh : List SC} {Qp : Option AV → List SC → Mem → Prop} (h1 : cl ≤ k) (h2 : sl ≤ n) (h : Wp K d y mc ms pc L S k n sh V Qp) : Wp K d y mc ms pc L S cl sl sh V Qp :=
  fun p e s m args below meth c H locs ls hC hR hS hL hV T hT X => h p e s m args below meth c H locs ls hC hR hS hL hV T hT (stand_widen X h1 h2)
theorem wge_throw {sa : Nat} (hE : kE K = false) (hl : (kL K).stackTraces = false) (hz : ∀ U H, kZ K U H → EZ sa (kB K) U H) (hd : 6 ≤ d) (hq : QX V) : WgE K d mX11_weight 1 6 21 L [] 0 0 SH V (GX K Q QX) := by
  intro p e s m args below meth c H locs ls hC hR hS hL hV T hT X
  by_cases hx : ∀ x ∈ c.exceptionTable.toList, False
  · obtain ⟨z1, z2, z3, z4⟩ := hz _ _ hC.2.2.2.2.2.2.2.2.2.2.2.2.2
    have hts := hC.2.2.2.2.2.1
    have w : W p (kL K) e (rmO d 1 6) s m args below meth c H locs 0 0 (vx_MQ below (QcO K (QW Q)) (XO K QX) args s 1 6 (kA K)) (F0 m 21 ls []) := by
      refine tx_throw (own := RX11) (cls := NSE) (Y0 := "java/lang/RuntimeException") (r0 := ["java/lang/Exception"]) (ik := 167) (is := 169) (ic := 171) (A := kA K) hC.1 hC.2.1 hl nse_D (by decide) nse_N hC.2.2.2.2.1 (by decide) (by decide) (by decide) (hts _ ww_new) (hts _ ww_nini) z2 (vx_hat (fun w hw => hts w (atS_tb w hw)) atS_rest (fun w hw => va_tabs (ngw_ot w hw) rfl (z1 w hw))) atS_ot z3 z4 hS (hL.1.trans hC.2.2.2.1.symm) dX11_weight_21 dX11_weight_24 dX11_weight_25 dX11_weight_27 dX11_weight_30 (fun x q => (hx x q).elim) ?_ ?_ (Nat.le_refl _) (Nat.le_refl _) hC.2.2.2.2.2.2.1 ?_ hS.2.2 (Nat.le_refl _) (Nat.le_refl _)
      · show 1 + 4 < d
        omega
      · show 0 + (13 * (1 + 2) + 43) ≤ 40 * d
        omega
      · intro t h1 h2 h3
        exact ⟨rfl, ⟨V, hR.grow hE h3, hq⟩, Nat.le_trans hS.1 h2, fun q k1 k2 => (h3 q (Nat.lt_of_lt_of_le k1 hS.1)).trans (hS.2.1 q k1 k2)⟩
    obtain ⟨t, a1, b1⟩ := w T hT X
    exact ⟨t, a1, fun _ => b1⟩
  · exact ⟨_, Steps.refl _, fun q => absurd q hx⟩
end WXA
section WXB
variable {K : KK} {d : Nat} {V : Mem} {P : Nat → Int × Int} {n R : Nat}
/-- a place of a row -/
theorem c_weight {sa : Nat} (hE : kE K = false) (hl : (kL K).stackTraces = false) (hz : ∀ U H, kZ K U H → EZ sa (kB K) U H) (hI : Icore P n R V) (r p : Int) : MXw K (d + 6) mX11_weight [vR 0, vI r, vI p] V (fun z V' => plC V r p ∧ z = wR P n V r.toNat p.toNat ∧ ∀ c, c ≠ 137 → V' c = V c) (fun V' => ¬ plC V r p ∧ V' = V) := by
  obtain ⟨hx, hr0, hR, hC, hlx, hlm, hw⟩ := id hI
  refine MXw.of rfl rfl rfl ?_
  by_cases q : plC V r p
  · refine WgE.ofX ?_
    obtain ⟨i, rfl⟩ : ∃ i : Nat, r = i := ⟨r.toNat, by have := q.1; omega⟩
    obtain ⟨j, rfl⟩ : ∃ j : Nat, p = j := ⟨p.toNat, by have := q.2.2.1; omega⟩
    have hi : i < R := by have := q.2.1; rw [hr0] at this; omega
    obtain ⟨m, m1, m2, m3, m4, m5, m6, m7, m8⟩ := hI.row hi
    have hj : j < m := by have := q.2.2.2; rw [tn, m2] at this; omega
    have hrow : IsRow (49 + 2 * i) := by
      have := obj44 (k := (i : Int)) ⟨by omega, by omega⟩
      rw [tn] at this
      exact this
    refine wp_aload_n dX11_weight_0 rfl rfl ?_
    refine wp_getR (b := 43) dX11_weight_1 fX11_26 rfl sh0 (by decide) rfl ?_
    refine wp_iload_n dX11_weight_4 rfl rfl ?_
    refine wp_callV (d' := d) (mc' := 0) (ms' := 0) (S := []) (as := [vI (i : Int)]) dX11_weight_5 lX11_150 (sX7_rowAt (Q := fun r V' => r = some (vR (49 + 2 * i)) ∧ V' = V) 43 (i : Int) is43 ⟨fun c => by omega, fun _ => ⟨fun c => by rw [hx] at c; omega, fun _ => ⟨⟨by omega, by omega⟩, by rw [tn], rfl⟩⟩⟩) (by omega) sh43 rfl rfl (Nat.le_of_ble_eq_true rfl) ⟨by decide, by decide⟩ (fun r sh1 V1 q1 => ?_)
    obtain ⟨rfl, rfl, rfl⟩ := q1
    show Wp _ _ _ _ _ 8 _ [vR (49 + 2 * i)] 0 0 _ _ _
    refine wp_astore_n dX11_weight_8 rfl (by decide) rfl ?_
    refine wp_aload_n dX11_weight_9 rfl rfl ?_
    refine wp_ifnull dX11_weight_10 ?_
    refine wp_aload_n dX11_weight_13 rfl rfl ?_
    refine wp_iload_n dX11_weight_14 rfl rfl ?_
    refine wp_callV (d' := d) (mc' := 0) (ms' := 0) (S := []) (as := [vI (j : Int)]) dX11_weight_15 lX11_160 ((c_hasPlace (d := d) hrow (j : Int)).use (T := fun z V' => z = 1 ∧ V' = V1) ⟨if_pos ⟨by omega, by rw [m1]; omega, by omega⟩, rfl⟩) (by omega) hrow.1 rfl rfl (Nat.le_of_ble_eq_true rfl) ⟨by decide, by decide⟩ (fun r sh1 V2 q1 => ?_)
    obtain ⟨rfl, z, rfl, rfl, rfl⟩ := q1
    show Wp _ _ _ _ _ 18 _ [vI 1] 0 0 _ _ _
    refine wp_if_ne (tgt := 31) dX11_weight_18 rfl (fun _ => ?_) (fun c => absurd c (by decide))
    refine wp_aload_n dX11_weight_31 rfl rfl ?_
    refine wp_getR (b := 135) dX11_weight_32 fX11_47 rfl sh0 (by decide) rfl ?_
    refine wp_aload_n dX11_weight_35 rfl rfl ?_
    refine wp_getR (b := 49 + 2 * i + 1) dX11_weight_36 fX11_164 rfl hrow.1 (by decide) rfl ?_
    refine wp_iload_n dX11_weight_39 rfl rfl ?_
    refine wp_iald dX11_weight_40 hrow.2 ⟨by omega, by omega⟩ ?_
    refine wp_iload_n dX11_weight_41 rfl rfl ?_
    refine wp_aload_n dX11_weight_42 rfl rfl ?_
    refine wp_getI dX11_weight_43 fX11_157 rfl hrow.1 (by decide) ?_
    refine wp_aload_n dX11_weight_46 rfl rfl ?_
    refine wp_getI dX11_weight_47 fX11_154 rfl hrow.1 (by decide) ?_
    rw [m1, m6, tn, show 49 + 2 * i + 1 = 50 + 2 * i by omega, m5 j hj]
    refine wp_callV (d' := d + 1) (mc' := 0) (ms' := 0) (S := []) (as := [vI (V2 381 (4 + 20 * i + j)), vI (j : Int), vI (m : Int), vI (V2 375 (3 + 22 * i))]) dX11_weight_50 lX11_174 (c_weigh (d := d) is135 hlx hw _ _ _ _) (by omega) sh135 rfl rfl (Nat.le_of_ble_eq_true rfl) ⟨by decide, by decide⟩ (fun r sh1 V3 q1 => ?_)
    obtain ⟨rfl, z, rfl, hz1, hz2⟩ := q1
    show Wp _ _ _ _ _ 53 _ [vI z] 0 0 _ _ _
    refine wp_widen (k := 1) (n := 6) (by decide) (by decide) ?_
    refine wp_ireturn dX11_weight_53 rfl ⟨rfl, rfl⟩ ⟨rfl, z, rfl, q, ?_, hz2⟩
    show z = wR P n V2 i j
    rw [hz1]
    unfold wR
    rw [m2]
  · refine wge_aload_n dX11_weight_0 rfl rfl ?_
    refine wge_getR (b := 43) dX11_weight_1 fX11_26 rfl sh0 (by decide) rfl ?_
    refine wge_iload_n dX11_weight_4 rfl rfl ?_
    by_cases c : 0 ≤ r ∧ r < (R : Int)
    · obtain ⟨i, rfl⟩ : ∃ i : Nat, r = i := ⟨r.toNat, by omega⟩
      obtain ⟨m, m1, m2, m3, m4, m5, m6, m7, m8⟩ := hI.row (show i < R by omega)
      have hrow : IsRow (49 + 2 * i) := by
        have := obj44 (k := (i : Int)) ⟨by omega, by omega⟩
        rw [tn] at this
        exact this
      have hp : ¬ (0 ≤ p ∧ p < V (49 + 2 * i) 3 ∧ p < 20) := fun c2 => q ⟨by omega, by rw [hr0]; omega, c2.1, by rw [tn, m2, ← m1]; exact c2.2.1⟩
      refine wge_callV (d' := d) (mc' := 0) (ms' := 0) (S := []) (as := [vI (i : Int)]) dX11_weight_5 lX11_150 (sX7_rowAt (Q := fun r V' => r = some (vR (49 + 2 * i)) ∧ V' = V) 43 (i : Int) is43 ⟨fun c => by omega, fun _ => ⟨fun c => by rw [hx] at c; omega, fun _ => ⟨⟨by omega, by omega⟩, by rw [tn], rfl⟩⟩⟩) (by omega) sh43 rfl rfl (Nat.le_of_ble_eq_true rfl) ⟨by decide, by decide⟩ (fun r sh1 V1 q1 => ?_)
      obtain ⟨rfl, rfl, rfl⟩ := q1
      show WgE _ _ _ _ _ 8 _ [vR (49 + 2 * i)] 0 0 _ _ _
      refine wge_astore_n dX11_weight_8 rfl (by decide) rfl ?_
      refine wge_aload_n dX11_weight_9 rfl rfl ?_
      refine wge_ifnull dX11_weight_10 ?_
      refine wge_aload_n dX11_weight_13 rfl rfl ?_
      refine wge_iload_n dX11_weight_14 rfl rfl ?_
      refine wge_callV (d' := d) (mc' := 0) (ms' := 0) (S := []) (as := [vI p]) dX11_weight_15 lX11_160 ((c_hasPlace (d := d) hrow p).use (T := fun z V' => z = 0 ∧ V' = V1) ⟨if_neg hp, rfl⟩) (by omega) hrow.1 rfl rfl (Nat.le_of_ble_eq_true rfl) ⟨by decide, by decide⟩ (fun r sh1 V2 q1 => ?_)
      obtain ⟨rfl, z, rfl, rfl, rfl⟩ := q1
      show WgE _ _ _ _ _ 18 _ [vI 0] 0 0 _ _ _
      exact wge_if_ne (tgt := 31) dX11_weight_18 rfl (fun c => absurd rfl c) (fun _ => wge_throw hE hl hz (by omega) ⟨q, rfl⟩)
    · refine wge_callV (d' := d) (mc' := 0) (ms' := 0) (S := []) (as := [vI r]) dX11_weight_5 lX11_150 (sX7_rowAt (Q := fun r V' => r = some vN ∧ V' = V) 43 r is43 ⟨fun c => ⟨rfl, rfl⟩, fun _ => ⟨fun c => ⟨rfl, rfl⟩, fun c2 => by rw [hx] at c2; omega⟩⟩) (by omega) sh43 rfl rfl (Nat.le_of_ble_eq_true rfl) ⟨by decide, by decide⟩ (fun r sh1 V1 q1 => ?_)
      obtain ⟨rfl, rfl, rfl⟩ := q1
      show WgE _ _ _ _ _ 8 _ [vN] 0 0 _ _ _
      refine wge_astore_nN dX11_weight_8 rfl (by decide) rfl ?_
      refine wge_aload_nN dX11_weight_9 rfl rfl ?_
      exact wge_ifnullN (tgt := 21) dX11_weight_10 rfl (wge_throw hE hl hz (by omega) ⟨q, rfl⟩)
end WXB
