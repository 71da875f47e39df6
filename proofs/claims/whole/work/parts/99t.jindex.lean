/-! ===== indexOf and charAt of a String constant ===== -/
def fnd (l : List Int32) (c : Int32) : Nat → Nat → Int32
  | 0, _ => -1
  | f + 1, j => if l.getD j 0 = c then Int32.ofNat j else fnd l c f (j + 1)
theorem b_id : ∀ c, c < 128 → (Int32.ofNat c).toInt8.toInt32 = Int32.ofNat c := by decide +kernel
theorem n_lt : ∀ c, c < 128 → ¬ Int32.ofNat c < 0 := by decide +kernel
theorem n_gt : ∀ c, c < 128 → ¬ (255 : Int32) < Int32.ofNat c := by decide +kernel
theorem nat_ge : ∀ j, j < 101 → ∀ k, k < 101 → (Int32.ofNat k ≤ Int32.ofNat j ↔ k ≤ j) := by decide +kernel
theorem nat_s : ∀ j, j < 101 → Int32.ofNat j + Int32.ofInt 1 = Int32.ofNat (j + 1) := by decide +kernel
theorem nat_cl : ∀ j, j < 101 → (Int32.ofNat j).toNatClampNeg = j := by decide +kernel
theorem nat_in {j N : Nat} (h : j < N) (hN : N < 101) : vp_in (Int32.ofNat j) N := by
  intro q
  rcases q with q | q
  · exact n_lt j (by omega) q
  · rw [nat_cl j (by omega)] at q; omega
theorem len_b : ∀ i, i < 2 → lenZ.getD i 0 < 101 ∧ 0 < lenZ.getD i 0 := by decide +kernel
section MJI
variable {K : KK} {adK adV : Nat → Nat} {d i cn : Nat}
theorem j_canEncode (hcn : cn < 128) : MJ K d mJ1_canEncode_9a6ad [.int (Int32.ofNat cn)] (some (.int 1)) := by
  refine mj_of rfl (Nat.le_of_ble_eq_true rfl) ?_
  intro p e s m below meth c ls hC hl
  obtain ⟨hx, hb, hr, hml, hown, hts, hlk, hO, hk, hB⟩ := hC
  refine lv_iload_n hx hb dJ1_canEncode_9a6ad_0 rfl (lv_at hl 0 rfl) ?_
  refine lv_if_lt (tgt := 15) hx hb dJ1_canEncode_9a6ad_1 rfl (fun q => absurd q (n_lt cn hcn)) (fun _ => ?_)
  refine lv_iload_n hx hb dJ1_canEncode_9a6ad_4 rfl (lv_at hl 0 rfl) ?_
  refine lv_sipush (v := 255) hx hb dJ1_canEncode_9a6ad_5 (by decide) ?_
  refine lv_icmp_gt (tgt := 15) hx hb dJ1_canEncode_9a6ad_8 rfl (fun q => absurd q (n_gt cn hcn)) (fun _ => ?_)
  refine lv_iconst (v := 1) hx hb dJ1_canEncode_9a6ad_11 (by decide) ?_
  refine lv_goto (tgt := 16) hx hb dJ1_canEncode_9a6ad_12 rfl ?_
  exact W.zret (v := 1) hx hb hr rfl (fun t ht _ => ⟨rfl, ht⟩) (fun q h => by cases h) dJ1_canEncode_9a6ad_16 hlk
theorem j_indexOfChar (hz : ∀ U H, kZ K U H → SZ adK adV (kB K) U H) (hi : i < 2) (hcn : cn < 128) : MJ K d mJ1_indexOfChar_4cfef [.ref (adV i), .int (Int32.ofNat cn), .int 0, .int (Int32.ofNat (lenZ.getD i 0))] (some (.int (fnd (bytZ.getD i []) (Int32.ofNat cn) (lenZ.getD i 0) 0))) := by
  refine mj_of rfl (Nat.le_of_ble_eq_true rfl) ?_
  intro p e s m below meth c ls hC hl
  obtain ⟨hx, hb, hr, hml, hown, hts, hlk, hO, hk, hB⟩ := hC
  obtain ⟨z1, z2, z3, z4, z5⟩ := hz _ _ hk
  have hS : va_S (kA K) s.heap s.heap [] := va_S.rf
  obtain ⟨hlen, -⟩ := len_b i hi
  have hT := (z1.1 i hi).2.2.2
  generalize hN : lenZ.getD i 0 = N at *
  generalize hby : bytZ.getD i [] = bl at *
  refine lv_iload_n hx hb dJ1_indexOfChar_4cfef_0 rfl (lv_at hl 1 rfl) ?_
  refine lv_i2b hx hb dJ1_indexOfChar_4cfef_1 (b_id cn hcn) ?_
  refine lv_istore (lv' := [(4, .int (Int32.ofNat cn)), (0, .ref (adV i)), (1, .int (Int32.ofNat cn)), (2, .int 0), (3, .int (Int32.ofNat N))]) hx hb dJ1_indexOfChar_4cfef_2 hl (by decide) rfl (fun ls1 hl1 => ?_)
  refine lv_iload_n hx hb dJ1_indexOfChar_4cfef_4 rfl (lv_at hl1 3 rfl) ?_
  refine lv_istore (lv' := [(5, .int 0), (4, .int (Int32.ofNat cn)), (0, .ref (adV i)), (1, .int (Int32.ofNat cn)), (2, .int 0), (3, .int (Int32.ofNat N))]) hx hb dJ1_indexOfChar_4cfef_5 hl1 (by decide) rfl (fun ls2 hl2 => ?_)
  have loop : ∀ (f j : Nat) (ls : Array Slot), j + f = N → lv_has ls 6 [(5, .int (Int32.ofNat j)), (4, .int (Int32.ofNat cn)), (0, .ref (adV i)), (1, .int (Int32.ofNat cn)), (2, .int 0), (3, .int (Int32.ofNat N))] → W p (kL K) e (rmO d 0 0) s m ([.ref (adV i), .int (Int32.ofNat cn), .int 0, .int (Int32.ofNat N)] : List Value).toArray below meth c s.heap [] 0 0 (MQ below (QJ (some (.int (fnd bl (Int32.ofNat cn) f j)))) ([.ref (adV i), .int (Int32.ofNat cn), .int 0, .int (Int32.ofNat N)] : List Value).toArray s 0 0 (kA K)) (F0 m 7 ls []) := by
    intro f
    induction f with
    | zero =>
      intro j ls hj hl
      refine lv_iload hx hb dJ1_indexOfChar_4cfef_7 (lv_at hl 0 rfl) ?_
      refine lv_iload_n hx hb dJ1_indexOfChar_4cfef_9 rfl (lv_at hl 5 rfl) ?_
      refine lv_icmp_ge (tgt := 31) hx hb dJ1_indexOfChar_4cfef_10 rfl (fun _ => ?_) (fun q => absurd ((nat_ge j (by omega) N (by omega)).2 (by omega)) q)
      refine lv_iconst (v := -1) hx hb dJ1_indexOfChar_4cfef_31 (by decide) ?_
      exact W.iret hx hb hr (fun t ht _ => ⟨rfl, ht⟩) (fun q h => by cases h) dJ1_indexOfChar_4cfef_32 hlk
    | succ f ih =>
      intro j ls hj hl
      refine lv_iload hx hb dJ1_indexOfChar_4cfef_7 (lv_at hl 0 rfl) ?_
      refine lv_iload_n hx hb dJ1_indexOfChar_4cfef_9 rfl (lv_at hl 5 rfl) ?_
      refine lv_icmp_ge (tgt := 31) hx hb dJ1_indexOfChar_4cfef_10 rfl (fun q => absurd ((nat_ge j (by omega) N (by omega)).1 q) (by omega)) (fun _ => ?_)
      refine lv_aload_n hx hb dJ1_indexOfChar_4cfef_13 rfl (lv_at hl 2 rfl) ?_
      refine lv_iload hx hb dJ1_indexOfChar_4cfef_14 (lv_at hl 0 rfl) ?_
      refine va_tb (v := .int (bl.getD j 0)) hx hb hT hS (nat_in (by omega) (by omega)) (by rw [nat_cl j (by omega)]) dJ1_indexOfChar_4cfef_16 ?_
      refine lv_iload hx hb dJ1_indexOfChar_4cfef_17 (lv_at hl 1 rfl) ?_
      have ef : fnd bl (Int32.ofNat cn) (f + 1) j = if bl.getD j 0 = Int32.ofNat cn then Int32.ofNat j else fnd bl (Int32.ofNat cn) f (j + 1) := rfl
      rw [ef]
      refine lv_icmp_ne (tgt := 25) hx hb dJ1_indexOfChar_4cfef_19 rfl (fun q => ?_) (fun q => ?_)
      · rw [if_neg q]
        refine lv_iinc (k := 0) (lv' := [(5, .int (Int32.ofNat (j + 1))), (4, .int (Int32.ofNat cn)), (0, .ref (adV i)), (1, .int (Int32.ofNat cn)), (2, .int 0), (3, .int (Int32.ofNat N))]) hx hb dJ1_indexOfChar_4cfef_25 hl rfl (nat_s j (by omega)) (by decide) rfl (fun ls3 hl3 => ?_)
        refine lv_goto (tgt := 7) hx hb dJ1_indexOfChar_4cfef_28 rfl ?_
        exact ih (j + 1) ls3 (by omega) hl3
      · rw [if_pos q]
        refine lv_iload hx hb dJ1_indexOfChar_4cfef_22 (lv_at hl 0 rfl) ?_
        exact W.iret hx hb hr (fun t ht _ => ⟨rfl, ht⟩) (fun q h => by cases h) dJ1_indexOfChar_4cfef_24 hlk
  exact loop N 0 ls2 (by omega) hl2
theorem mx0 : ∀ N, N < 101 → (if Int32.ofNat N < Int32.ofNat N then Int32.ofNat N else Int32.ofNat N) = Int32.ofNat N := by
  intro N _
  split <;> rfl
theorem j_indexOf4 (hz : ∀ U H, kZ K U H → SZ adK adV (kB K) U H) (hi : i < 2) (hcn : cn < 128) : MJ K (d + 1) mJ1_indexOf_4cfef [.ref (adV i), .int (Int32.ofNat cn), .int 0, .int (Int32.ofNat (lenZ.getD i 0))] (some (.int (fnd (bytZ.getD i []) (Int32.ofNat cn) (lenZ.getD i 0) 0))) := by
  refine mj_of rfl (Nat.le_of_ble_eq_true rfl) ?_
  intro p e s m below meth c ls hC hl
  obtain ⟨hx, hb, hr, hml, hown, hts, hlk, hO, hk, hB⟩ := hC
  have hzz := hz _ _ hk
  obtain ⟨z1, z2, z3, z4, z5⟩ := hzz
  have hS : va_S (kA K) s.heap s.heap [] := va_S.rf
  obtain ⟨hlen, hpos⟩ := len_b i hi
  have hT := (z1.1 i hi).2.2.2
  have hM := j_indexOfChar (K := K) (d := d) hz hi hcn
  generalize hN : lenZ.getD i 0 = N at *
  generalize hby : bytZ.getD i [] = bl at *
  refine lv_iload_n hx hb dJ1_indexOf_4cfef_0 rfl (lv_at hl 1 rfl) ?_
  refine mj_callS (As := [.int (Int32.ofNat cn)]) (rest := []) ⟨hx, hb, hml, hown, hts⟩ okJ1_canEncode_9a6ad ljJ1_88 stJ1_canEncode_9a6ad (j_canEncode (d := d) hcn) (by omega) ⟨Nat.le_refl _, Nat.le_refl _⟩ hO hk hB hS rfl hl.1 (Nat.le_of_ble_eq_true rfl) dJ1_indexOf_4cfef_1 (fun locs1 hS1 => ?_)
  refine lv_if_ne (tgt := 9) hx hb dJ1_indexOf_4cfef_4 rfl (fun _ => ?_) (fun q => absurd q (by decide))
  refine lv_iload_n hx hb dJ1_indexOf_4cfef_9 rfl (lv_at hl 2 rfl) ?_
  refine lv_iconst (v := 0) hx hb dJ1_indexOf_4cfef_10 (by decide) ?_
  refine va_mmax hx hb (hml.trans hl.1.symm) hown (hts _ ljJ1_92) (hts _ tb_m1) (hts _ tb_m0) (hts _ tb_m2) (by show 1 ≤ d + 1; omega) (by show _ ≤ 40 * (d + 1); simp; omega) (Nat.le_refl _) (Nat.le_refl _) dJ1_indexOf_4cfef_11 ?_
  rw [show (if (0 : Int32) < 0 then (0 : Int32) else 0) = 0 from by decide]
  refine lv_istore_n (lv' := [(2, .int 0), (0, .ref (adV i)), (1, .int (Int32.ofNat cn)), (3, .int (Int32.ofNat N))]) hx hb dJ1_indexOf_4cfef_14 rfl hl (by decide) rfl (fun ls1 hl1 => ?_)
  refine lv_iload_n hx hb dJ1_indexOf_4cfef_15 rfl (lv_at hl1 3 rfl) ?_
  refine lv_aload_n hx hb dJ1_indexOf_4cfef_16 rfl (lv_at hl1 1 rfl) ?_
  refine va_tlen hx hb hT hS1 rfl dJ1_indexOf_4cfef_17 ?_
  refine va_mmin hx hb (hml.trans hl1.1.symm) hown (hts _ ljJ1_38) (hts _ tb_m3) (hts _ tb_m0) (hts _ tb_m4) (by show 1 ≤ d + 1; omega) (by show _ ≤ 40 * (d + 1); simp; omega) (Nat.le_refl _) (Nat.le_refl _) dJ1_indexOf_4cfef_18 ?_
  rw [mx0 N (by omega)]
  refine lv_istore_n (lv' := [(3, .int (Int32.ofNat N)), (2, .int 0), (0, .ref (adV i)), (1, .int (Int32.ofNat cn))]) hx hb dJ1_indexOf_4cfef_21 rfl hl1 (by decide) rfl (fun ls2 hl2 => ?_)
  refine lv_iload_n hx hb dJ1_indexOf_4cfef_22 rfl (lv_at hl2 1 rfl) ?_
  refine lv_iload_n hx hb dJ1_indexOf_4cfef_23 rfl (lv_at hl2 0 rfl) ?_
  refine lv_icmp_lt (tgt := 29) hx hb dJ1_indexOf_4cfef_24 rfl (fun _ => ?_) (fun q => ?_)
  · refine lv_aload_n hx hb dJ1_indexOf_4cfef_29 rfl (lv_at hl2 2 rfl) ?_
    refine lv_iload_n hx hb dJ1_indexOf_4cfef_30 rfl (lv_at hl2 3 rfl) ?_
    refine lv_iload_n hx hb dJ1_indexOf_4cfef_31 rfl (lv_at hl2 1 rfl) ?_
    refine lv_iload_n hx hb dJ1_indexOf_4cfef_32 rfl (lv_at hl2 0 rfl) ?_
    refine mj_callS (As := [.ref (adV i), .int (Int32.ofNat cn), .int 0, .int (Int32.ofNat N)]) (rest := []) ⟨hx, hb, hml, hown, hts⟩ okJ1_indexOfChar_4cfef ljJ1_95 stJ1_indexOfChar_4cfef hM (by omega) ⟨Nat.le_refl _, Nat.le_refl _⟩ hO hk hB hS1 rfl hl2.1 (Nat.le_of_ble_eq_true rfl) dJ1_indexOf_4cfef_33 (fun locs2 hS2 => ?_)
    exact W.iret hx hb hr (fun t ht _ => ⟨rfl, ht⟩) hS2.2.2 dJ1_indexOf_4cfef_36 hlk
  · exact absurd (show (0 : Int32) < Int32.ofNat N from by
      have h9 : ∀ N, N < 101 → 0 < N → (0 : Int32) < Int32.ofNat N := by decide +kernel
      exact h9 N hlen hpos) q
theorem j_indexOf3 (hz : ∀ U H, kZ K U H → SZ adK adV (kB K) U H) (hi : i < 2) (hcn : cn < 128) : MJ K (d + 2) mJ0_indexOf_7cf53 [.ref (adK i), .int (Int32.ofNat cn), .int 0] (some (.int (fnd (bytZ.getD i []) (Int32.ofNat cn) (lenZ.getD i 0) 0))) := by
  refine mj_of rfl (Nat.le_of_ble_eq_true rfl) ?_
  intro p e s m below meth c ls hC hl
  obtain ⟨hx, hb, hr, hml, hown, hts, hlk, hO, hk, hB⟩ := hC
  obtain ⟨z1, z2, z3, z4, z5⟩ := hz _ _ hk
  have hS : va_S (kA K) s.heap s.heap [] := va_S.rf
  refine lv_aload_n hx hb dJ0_indexOf_7cf53_0 rfl (lv_at hl 0 rfl) ?_
  refine mj_callV (As := []) (rest := []) ⟨hx, hb, hml, hown, hts⟩ okJ0_isLatin1_aae02 ljJ0_492 imJ0_isLatin1_aae02 seJ0_isLatin1_aae02 rfl (j_isLatin1 (d := d) hz hi) (by omega) ⟨Nat.le_refl _, Nat.le_refl _⟩ hO hk hB hS (vk_recv z1 hi hS) rfl hl.1 (Nat.le_of_ble_eq_true rfl) dJ0_indexOf_7cf53_1 (fun locs1 hS1 => ?_)
  refine lv_if_eq (tgt := 23) hx hb dJ0_indexOf_7cf53_4 rfl (fun q => absurd q (by decide)) (fun _ => ?_)
  refine lv_aload_n hx hb dJ0_indexOf_7cf53_7 rfl (lv_at hl 0 rfl) ?_
  refine vk_getf hx hb (z1.1 i hi).2.2.1 hS1 hown (hts _ fj0_9) (fun _ h => h) dJ0_indexOf_7cf53_8 ?_
  refine lv_iload_n hx hb dJ0_indexOf_7cf53_11 rfl (lv_at hl 1 rfl) ?_
  refine lv_iload_n hx hb dJ0_indexOf_7cf53_12 rfl (lv_at hl 2 rfl) ?_
  refine lv_aload_n hx hb dJ0_indexOf_7cf53_13 rfl (lv_at hl 0 rfl) ?_
  refine mj_callV (As := []) (rest := [.int 0, .int (Int32.ofNat cn), .ref (adV i)]) ⟨hx, hb, hml, hown, hts⟩ okJ0_length_8abf5 ljJ0_505 imJ0_length_8abf5 seJ0_length_8abf5 rfl (j_length (d := d) hz hi) (by omega) ⟨Nat.le_refl _, Nat.le_refl _⟩ hO hk hB hS1 (vk_recv z1 hi hS1) rfl hl.1 (Nat.le_of_ble_eq_true rfl) dJ0_indexOf_7cf53_14 (fun locs2 hS2 => ?_)
  refine mj_callS (As := [.ref (adV i), .int (Int32.ofNat cn), .int 0, .int (Int32.ofNat (lenZ.getD i 0))]) (rest := []) ⟨hx, hb, hml, hown, hts⟩ okJ1_indexOf_4cfef ljJ0_637 stJ1_indexOf_4cfef (j_indexOf4 (d := d) hz hi hcn) (by omega) ⟨Nat.le_refl _, Nat.le_refl _⟩ hO hk hB hS2 rfl hl.1 (Nat.le_of_ble_eq_true rfl) dJ0_indexOf_7cf53_17 (fun locs3 hS3 => ?_)
  refine lv_goto (tgt := 36) hx hb dJ0_indexOf_7cf53_20 rfl ?_
  exact W.iret hx hb hr (fun t ht _ => ⟨rfl, ht⟩) hS3.2.2 dJ0_indexOf_7cf53_36 hlk
theorem j_indexOf2 (hz : ∀ U H, kZ K U H → SZ adK adV (kB K) U H) (hi : i < 2) (hcn : cn < 128) : MJ K (d + 3) mJ0_indexOf_0f7a4 [.ref (adK i), .int (Int32.ofNat cn)] (some (.int (fnd (bytZ.getD i []) (Int32.ofNat cn) (lenZ.getD i 0) 0))) := by
  refine mj_of rfl (Nat.le_of_ble_eq_true rfl) ?_
  intro p e s m below meth c ls hC hl
  obtain ⟨hx, hb, hr, hml, hown, hts, hlk, hO, hk, hB⟩ := hC
  obtain ⟨z1, z2, z3, z4, z5⟩ := hz _ _ hk
  have hS : va_S (kA K) s.heap s.heap [] := va_S.rf
  refine lv_aload_n hx hb dJ0_indexOf_0f7a4_0 rfl (lv_at hl 0 rfl) ?_
  refine lv_iload_n hx hb dJ0_indexOf_0f7a4_1 rfl (lv_at hl 1 rfl) ?_
  refine lv_iconst (v := 0) hx hb dJ0_indexOf_0f7a4_2 (by decide) ?_
  refine mj_callV (As := [.int (Int32.ofNat cn), .int 0]) (rest := []) ⟨hx, hb, hml, hown, hts⟩ okJ0_indexOf_7cf53 ljJ0_633 imJ0_indexOf_7cf53 seJ0_indexOf_7cf53 rfl (j_indexOf3 (d := d) hz hi hcn) (by omega) ⟨Nat.le_refl _, Nat.le_refl _⟩ hO hk hB hS (vk_recv z1 hi hS) rfl hl.1 (Nat.le_of_ble_eq_true rfl) dJ0_indexOf_0f7a4_3 (fun locs1 hS1 => ?_)
  exact W.iret hx hb hr (fun t ht _ => ⟨rfl, ht⟩) hS1.2.2 dJ0_indexOf_0f7a4_6 hlk
end MJI
