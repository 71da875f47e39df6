/-! ===== the law's own weight: it asks the class, and catches ===== -/
def QLw (V : Mem) (P : Nat → Int × Int) (n : Nat) (r p : Int) : Int → Mem → Prop := fun z V' => (plC V r p ∧ z = 0 ∧ V' 401 0 = wR P n V r.toNat p.toNat ∧ ∀ c, c ≠ 137 → c ≠ 401 → V' c = V c) ∨ (¬ plC V r p ∧ z = 1 ∧ V' = V)
def MLw (K : KK) (d : Nat) (as : List AV) (V : Mem) (Q : Int → Mem → Prop) : Prop :=
  Met (kL K) yL_weight (Cond.codeWith yL_weight cL_weight 5 (some .int) [(0, 10, 13, 13)] :: tb) (rmO d 1 6) (PcO K as SH V) (QcO K (QW Q)) 1 6 (kA K)
def GW (K : KK) (Q : Int → Mem → Prop) : EG := fun _ _ s _ args below _ c t => c.exceptionTable.toList = tableOf [(0, 10, 13, 13)] → MQ below (QcO K (QW Q)) args s 1 6 (kA K) t
section LWA
variable {K : KK} {d : Nat} {V : Mem} {Q : Int → Mem → Prop} {as : List AV} {L : List (Option AV)}
theorem MLw.of (hn : Nat.ble (as.flatMap enF).length 5 = true) (hL : enL 5 as = L) (h : WgE K d mL_weight 1 6 0 L [] 0 0 SH V (GW K Q)) : MLw K d as V Q := by
  subst hL
  refine va_MetW (cc := cL_weight) (maxL := 5) (ret := some .int) (hh := [(0, 10, 13, 13)]) (by decide) rfl ?_
  intro p e s m args below meth c s₁ B hml hv
  obtain ⟨rfl, hok, hR, hK, hB, hX, hlt, hO⟩ := hv
  have hts := atoms_spec (ws := Cond.codeWith yL_weight cL_weight 5 (some .int) [(0, 10, 13, 13)] :: tb) B.pre
  have htab := vx_table (x := yL_weight) B (hts _ List.mem_cons_self)
  rw [lg_entry_eq]
  intro T hT X
  obtain ⟨t, a1, b1⟩ := h p e s m _ below meth c s.heap [] _ ⟨B.exec, B.bytes, B.returns, hml, findClass_of_methodNamed B.named, fun w hw => hts w (List.mem_cons_of_mem _ hw), B.notSynchronized, hK, hB, ⟨hX, hlt⟩, (name_of_methodNamed B.named B.method).1, hO⟩ hR va_S.rf (enL_P hok (Nat.le_of_ble_eq_true hn)) (fun v h => by cases h) T hT X
  exact ⟨t, a1, b1 htab⟩
theorem wge_wcall {sa : Nat} {r p : Int} {Q1 : Int → Mem → Prop} {QX : Mem → Prop} (hz : ∀ U H, kZ K U H → EZ sa (kB K) U H) (hM : MXw K (d + 6) mX11_weight [vR 0, vI r, vI p] V Q1 QX)
    (h1 : ∀ z V', Q1 z V' → Wp K (d + 7) mL_weight 1 6 8 [some (vR 0), some (vI r), some (vI p), some (vR 401), none] [vI z, vI 0, vR 401] 1 6 SH V' (QW Q))
    (h2 : ∀ V', QX V' → Wp K (d + 7) mL_weight 1 6 15 [] [] 1 6 SH V' (QW Q)) : WgE K (d + 7) mL_weight 1 6 5 [some (vR 0), some (vI r), some (vI p), some (vR 401), none] [vI p, vI r, vR 0, vI 0, vR 401] 0 0 SH V (GW K Q) := by
  intro p9 e s m args below meth c H locs ls hC hR hS hL hV
  obtain ⟨⟨hy, hcode, hini, hmx⟩, hlk, hin, hsel, hc13, T0, N0, hcl0⟩ := lL_7
  have hts := hC.2.2.2.2.2.1
  have hokb : ∀ v ∈ [vI r, vI p], okv v := fun v hv => hV v (by
    rcases List.mem_cons.mp hv with q | q
    · rw [q]; exact List.mem_cons_of_mem _ List.mem_cons_self
    · rw [List.mem_singleton.mp q]; exact List.mem_cons_self)
  have hG : GoodIn tb (Cond.code mX11_weight.1 mX11_weight.2.1 mX11_weight.2.2.1 mX11_weight.2.2.2 :: tb) := fun w hw => (List.mem_cons.mp hw).elim (fun q => q ▸ tb_good hcode) tb_good
  have cw : CallW (rmO (d + 7) 1 6) s args RL mX11_weight.1.cls 7 mX11_weight.1 mX11_weight.2.1 mX11_weight.2.2.1 mX11_weight.2.2.2 (Cond.code mX11_weight.1 mX11_weight.2.1 mX11_weight.2.2.1 mX11_weight.2.2.2 :: tb) (rmO (d + 6) 1 6) 1 6 2 :=
    ⟨callB_of 2 hts hG rfl rfl rfl (hts _ hini) (hts _ hlk) hy ⟨by show d + 6 + 1 ≤ d + 7; omega, by show 8 + (mX11_weight.2.2.1 + 11) + 40 * (d + 6) ≤ 40 * (d + 7); omega⟩, hts _ hin, hts _ hsel⟩
  have he := wsO_at (K := K) (V := V) sh0
  rw [cE_o hc13] at he
  have run := vx_runV (R := rmO (d + 7) 1 6) (below := below) (meth := meth) (e := e) (locs := locs) (cells := 0) (slots := 0) (H := H) (b := kB K + 0) (As := [vI r, vI p].map (cv K)) (rest := [vI 0, vR 401].map (cv K)) (g := F0 m 5 ls ([vI p, vI r, vR 0, vI 0, vR 401].map (cv K))) ⟨hC.1, hC.2.1, hC.2.2.2.1, hC.2.2.2.2.1, hts⟩ hM cw ⟨PcO.blind, va_recv hC.2.2.2.2.2.2.2.1 hR.1 hcl0 he, wp_pre (ls := ls) (as := [vR 0, vI r, vI p]) hC hR hS (okS_c trivial hokb)⟩ rfl rfl hL.1 rfl (lv_room (Nat.le_of_ble_eq_true rfl)) dL_weight_5 ⟨Nat.le_refl _, Nat.le_refl _⟩
  intro T hT X
  by_cases hx : c.exceptionTable.toList = tableOf [(0, 10, 13, 13)]
  · have hS1 : ∀ {st₀ t T' : State} {L : List Loc}, st₀.heap = H → T'.heap = t.heap → (∀ q ∈ L, kA K q.base) → va_F (kA K) st₀ t → va_S (kA K) s.heap T'.heap (locs ++ L) := fun h0 e1 hL' hF => (vx_keep h0 e1 hS (fun _ _ q => q) (fun _ q => q) hL' hF).2.2
    rcases run T hT X with ⟨v, st₀, t, T', L1, h0, X', hL', e1, e2, hQ, st⟩ | ⟨q, st₀, t, T', L1, E, ce, h0, X', hL', e1, e2, hXC, hce, hcv, hcl, st⟩
    · obtain ⟨⟨r9, sh', V', hv, hok, hRel, hsh, z, hz1, hq⟩, hF⟩ := hQ
      cases hv
      subst hz1
      subst hsh
      have rz : okv (vI z) := hok _ rfl
      obtain ⟨t2, a1, b1⟩ := h1 z V' hq p9 e s m args below meth c T'.heap (locs ++ L1) ls hC (by rw [e1]; exact hRel) (hS1 h0 e1 hL' hF) hL (okS_c rz (okS_t (okS_t (okS_t hV)))) T' rfl X'
      exact ⟨t2, st t2 a1, fun _ => b1⟩
    · obtain ⟨rfl, ⟨V', hRel, hq⟩, hF⟩ := hXC
      obtain ⟨z1, -, -, -⟩ := hz _ _ hC.2.2.2.2.2.2.2.2.2.2.2.2.2
      have hcast : (Cond.castable NSE NSE).before args s = true := va_tabs (ngw_ot _ List.mem_cons_self) rfl (z1 _ List.mem_cons_self)
      have hSS := hS1 h0 e1 hL' hF
      have kk : W p9 (kL K) e (rmO (d + 7) 1 6) s m args below meth c T'.heap (locs ++ L1) 1 6 (MQ below (QcO K (QW Q)) args s 1 6 (kA K)) (F0 m 13 ls [.ref q]) := by
        refine lv_astore (lv := []) hC.1 hC.2.1 dL_weight_13 ⟨hL.1, hL.2.1, fun q hq => by cases hq⟩ (by decide) rfl (fun ls2 hl2 => ?_)
        exact h2 V' hq p9 e s m args below meth c T'.heap (locs ++ L1) ls2 hC (by rw [e1]; exact hRel) hSS ⟨hl2.1, hl2.2.1, fun k v hk => by simp at hk⟩ (fun v hv => by cases hv)
      obtain ⟨t2, a1, b1⟩ := vx_catch (own := RL) (name := NSE) (E := NSE) (ce := ce) (q := q) (pc := 5) (ls := ls) (rest := [vI 0, vR 401].map (cv K)) hC.2.2.2.2.1 [] ⟨0, 10, 13, 13⟩ [] hx (fun z hz => by cases hz) rfl (by decide) (hts _ ww_catch) hcast (by rw [e1]; exact hce) hcv hcl kk T' rfl X'
      exact ⟨t2, st.trans a1, fun _ => b1⟩
  · exact ⟨_, Steps.refl _, fun q => absurd q hx⟩
end LWA
section LWB
variable {K : KK} {d : Nat} {V : Mem} {P : Nat → Int × Int} {n R : Nat}
theorem l_weight {sa : Nat} (hE : kE K = false) (hl : (kL K).stackTraces = false) (hz : ∀ U H, kZ K U H → EZ sa (kB K) U H) (hI : Icore P n R V) (r p : Int) : MLw K (d + 7) [vR 0, vI r, vI p, vR 401] V (QLw V P n r p) := by
  refine MLw.of (L := [some (vR 0), some (vI r), some (vI p), some (vR 401), none]) rfl rfl ?_
  refine wge_aload_n dL_weight_0 rfl rfl ?_
  refine wge_iconst dL_weight_1 (by decide) ?_
  refine wge_aload_n dL_weight_2 rfl rfl ?_
  refine wge_iload_n dL_weight_3 rfl rfl ?_
  refine wge_iload_n dL_weight_4 rfl rfl ?_
  refine wge_wcall hz (c_weight (d := d) hE hl hz hI r p) (fun z V' q => ?_) (fun V' q => ?_)
  · obtain ⟨q1, q2, q3⟩ := q
    refine wp_i2l dL_weight_8 ?_
    refine wp_last dL_weight_9 sh401 ⟨by decide, by decide⟩ ?_
    refine wp_goto (tgt := 17) dL_weight_10 rfl ?_
    refine wp_iconst dL_weight_17 (by decide) ?_
    refine wp_ireturn dL_weight_18 rfl ⟨rfl, rfl⟩ ⟨rfl, 0, rfl, Or.inl ⟨q1, rfl, ?_, fun c c1 c2 => ?_⟩⟩
    · show upm V' 401 0 z 401 0 = _
      rw [upm_s]; exact q2
    · show upm V' 401 0 z c = _
      rw [upm_off c c2]; exact q3 c c1
  · obtain ⟨q1, rfl⟩ := q
    refine wp_iconst dL_weight_15 (by decide) ?_
    exact wp_ireturn dL_weight_16 rfl ⟨rfl, rfl⟩ ⟨rfl, 1, rfl, Or.inr ⟨q1, rfl, rfl⟩⟩
end LWB
