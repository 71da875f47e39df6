/-! ===== charAt of the words' text ===== -/
theorem kw_c2 : ∀ k, k < 100 → ((kwZ.getD k 0 &&& 255).toUInt32 % 65536).toInt32 = kwZ.getD k 0 := by decide +kernel
theorem kw_nar : ∀ k, k < 100 → narrow .char (.int (kwZ.getD k 0)) = .int (kwZ.getD k 0) := by decide +kernel
theorem nat_lt : ∀ j, j < 101 → ∀ k, k < 101 → (Int32.ofNat k < Int32.ofNat j ↔ k < j) := by decide +kernel
section MJH
variable {K : KK} {adK adV : Nat → Nat} {d k n : Nat}
theorem j_checkIndex3 {v : Value} (hv : v = .null ∨ ∃ t, v = .ref t) (hk : k < n) (hn : n < 101) : MJ K d mJ3_checkIndex_8e157 [.int (Int32.ofNat k), .int (Int32.ofNat n), v] (some (.int (Int32.ofNat k))) := by
  refine mj_of rfl (by rcases hv with rfl | ⟨t, rfl⟩ <;> exact Nat.le_of_ble_eq_true rfl) ?_
  intro p e s m below meth c ls hC hl
  obtain ⟨hx, hb, hr, hml, hown, hts, hlk, hO, hkz, hB⟩ := hC
  refine lv_iload_n hx hb dJ3_checkIndex_8e157_0 rfl (lv_at hl 0 rfl) ?_
  refine lv_if_lt (tgt := 9) hx hb dJ3_checkIndex_8e157_1 rfl (fun q => absurd q (n_lt k (by omega))) (fun _ => ?_)
  refine lv_iload_n hx hb dJ3_checkIndex_8e157_4 rfl (lv_at hl 0 rfl) ?_
  refine lv_iload_n hx hb dJ3_checkIndex_8e157_5 rfl (lv_at hl 1 rfl) ?_
  refine lv_icmp_lt (tgt := 16) hx hb dJ3_checkIndex_8e157_6 rfl (fun _ => ?_) (fun q => absurd ((nat_lt n (by omega) k (by omega)).2 hk) q)
  refine lv_iload_n hx hb dJ3_checkIndex_8e157_16 rfl (lv_at hl 0 rfl) ?_
  exact W.iret hx hb hr (fun t ht _ => ⟨rfl, ht⟩) (fun q h => by cases h) dJ3_checkIndex_8e157_17 hlk
theorem j_checkIndex (hz : ∀ U H, kZ K U H → SZ adK adV (kB K) U H) (hk : k < n) (hn : n < 101) : MJ K (d + 1) mJ0_checkIndex_df160 [.int (Int32.ofNat k), .int (Int32.ofNat n)] none := by
  refine mj_of rfl (Nat.le_of_ble_eq_true rfl) ?_
  intro p e s m below meth c ls hC hl
  obtain ⟨hx, hb, hr, hml, hown, hts, hlk, hO, hkz, hB⟩ := hC
  obtain ⟨z1, z2, z3, z4, z5⟩ := hz _ _ hkz
  have hS : va_S (kA K) s.heap s.heap [] := va_S.rf
  refine lv_iload_n hx hb dJ0_checkIndex_df160_0 rfl (lv_at hl 0 rfl) ?_
  refine lv_iload_n hx hb dJ0_checkIndex_df160_1 rfl (lv_at hl 1 rfl) ?_
  have go : ∀ v : Value, (v = .null ∨ ∃ t, v = .ref t) → va_Z "jdk/internal/util/Preconditions" "SIOOBE_FORMATTER" "Ljava/util/function/BiFunction;" v (fun q => kB K ≤ q) s s.heap → W p (kL K) e (rmO (d + 1) 0 0) s m ([.int (Int32.ofNat k), .int (Int32.ofNat n)] : List Value).toArray below meth c s.heap [] 0 0 (MQ below (QJ none) ([.int (Int32.ofNat k), .int (Int32.ofNat n)] : List Value).toArray s 0 0 (kA K)) (F0 m 2 ls [.int (Int32.ofNat n), .int (Int32.ofNat k)]) := by
    intro v hv z
    refine va_gets hx hb z hS hown (hts _ fj0_1053) (fun _ h => h) dJ0_checkIndex_df160_2 ?_
    refine mj_callS (As := [.int (Int32.ofNat k), .int (Int32.ofNat n), v]) (rest := []) ⟨hx, hb, hml, hown, hts⟩ okJ3_checkIndex_8e157 ljJ0_1059 stJ3_checkIndex_8e157 (j_checkIndex3 (d := d) hv hk hn) (by omega) ⟨Nat.le_refl _, Nat.le_refl _⟩ hO hkz hB hS rfl hl.1 (Nat.le_of_ble_eq_true rfl) dJ0_checkIndex_df160_5 (fun locs1 hS1 => ?_)
    refine lv_pop hx hb dJ0_checkIndex_df160_8 rfl ?_
    exact W.vret hx hb hr (fun t ht _ => ⟨rfl, ht⟩) hS1.2.2 dJ0_checkIndex_df160_9 hlk
  rcases z3 with z | ⟨t, z⟩
  · exact go _ (Or.inl rfl) z
  · exact go _ (Or.inr ⟨t, rfl⟩) z
theorem j_charAt1 (hz : ∀ U H, kZ K U H → SZ adK adV (kB K) U H) (hk : k < 100) : MJ K (d + 2) mJ1_charAt_3b067 [.ref (adV 1), .int (Int32.ofNat k)] (some (.int (kwZ.getD k 0))) := by
  refine mj_of rfl (Nat.le_of_ble_eq_true rfl) ?_
  intro p e s m below meth c ls hC hl
  obtain ⟨hx, hb, hr, hml, hown, hts, hlk, hO, hkz, hB⟩ := hC
  obtain ⟨z1, z2, z3, z4, z5⟩ := hz _ _ hkz
  have hS : va_S (kA K) s.heap s.heap [] := va_S.rf
  have hT := (z1.1 1 (by decide)).2.2.2
  refine lv_iload_n hx hb dJ1_charAt_3b067_0 rfl (lv_at hl 1 rfl) ?_
  refine lv_aload_n hx hb dJ1_charAt_3b067_1 rfl (lv_at hl 0 rfl) ?_
  refine va_tlen hx hb hT hS rfl dJ1_charAt_3b067_2 ?_
  refine mj_callS (As := [.int (Int32.ofNat k), .int (Int32.ofNat 100)]) (rest := []) ⟨hx, hb, hml, hown, hts⟩ okJ0_checkIndex_df160 ljJ1_9 stJ0_checkIndex_df160 (j_checkIndex (d := d) hz hk (by omega)) (by omega) ⟨Nat.le_refl _, Nat.le_refl _⟩ hO hkz hB hS rfl hl.1 (Nat.le_of_ble_eq_true rfl) dJ1_charAt_3b067_3 (fun locs1 hS1 => ?_)
  refine lv_aload_n hx hb dJ1_charAt_3b067_6 rfl (lv_at hl 0 rfl) ?_
  refine lv_iload_n hx hb dJ1_charAt_3b067_7 rfl (lv_at hl 1 rfl) ?_
  refine va_tb (v := .int (kwZ.getD k 0)) hx hb hT hS1 (nat_in (by exact hk) (by decide)) (by rw [nat_cl k (by omega)]; rfl) dJ1_charAt_3b067_8 ?_
  refine lv_sipush (v := 255) hx hb dJ1_charAt_3b067_9 (by decide) ?_
  refine lv_iand hx hb dJ1_charAt_3b067_12 ?_
  refine lv_i2c hx hb dJ1_charAt_3b067_13 (kw_c2 k hk) ?_
  exact W.zret hx hb hr (kw_nar k hk) (fun t ht _ => ⟨rfl, ht⟩) hS1.2.2 dJ1_charAt_3b067_14 hlk
theorem j_charAt (hz : ∀ U H, kZ K U H → SZ adK adV (kB K) U H) (hk : k < 100) : MJ K (d + 3) mJ0_charAt_5068e [.ref (adK 1), .int (Int32.ofNat k)] (some (.int (kwZ.getD k 0))) := by
  refine mj_of rfl (Nat.le_of_ble_eq_true rfl) ?_
  intro p e s m below meth c ls hC hl
  obtain ⟨hx, hb, hr, hml, hown, hts, hlk, hO, hkz, hB⟩ := hC
  obtain ⟨z1, z2, z3, z4, z5⟩ := hz _ _ hkz
  have hS : va_S (kA K) s.heap s.heap [] := va_S.rf
  refine lv_aload_n hx hb dJ0_charAt_5068e_0 rfl (lv_at hl 0 rfl) ?_
  refine mj_callV (As := []) (rest := []) ⟨hx, hb, hml, hown, hts⟩ okJ0_isLatin1_aae02 ljJ0_492 imJ0_isLatin1_aae02 seJ0_isLatin1_aae02 rfl (j_isLatin1 (i := 1) (d := d) hz (by decide)) (by omega) ⟨Nat.le_refl _, Nat.le_refl _⟩ hO hkz hB hS (vk_recv z1 (by decide) hS) rfl hl.1 (Nat.le_of_ble_eq_true rfl) dJ0_charAt_5068e_1 (fun locs1 hS1 => ?_)
  refine lv_if_eq (tgt := 16) hx hb dJ0_charAt_5068e_4 rfl (fun q => absurd q (by decide)) (fun _ => ?_)
  refine lv_aload_n hx hb dJ0_charAt_5068e_7 rfl (lv_at hl 0 rfl) ?_
  refine vk_getf hx hb (z1.1 1 (by decide)).2.2.1 hS1 hown (hts _ fj0_9) (fun _ h => h) dJ0_charAt_5068e_8 ?_
  refine lv_iload_n hx hb dJ0_charAt_5068e_11 rfl (lv_at hl 1 rfl) ?_
  refine mj_callS (As := [.ref (adV 1), .int (Int32.ofNat k)]) (rest := []) ⟨hx, hb, hml, hown, hts⟩ okJ1_charAt_3b067 ljJ0_495 stJ1_charAt_3b067 (j_charAt1 (d := d) hz hk) (by omega) ⟨Nat.le_refl _, Nat.le_refl _⟩ hO hkz hB hS1 rfl hl.1 (Nat.le_of_ble_eq_true rfl) dJ0_charAt_5068e_12 (fun locs2 hS2 => ?_)
  exact W.zret hx hb hr (kw_nar k hk) (fun t ht _ => ⟨rfl, ht⟩) hS2.2.2 dJ0_charAt_5068e_15 hlk
end MJH
section WPC2
variable {K : KK} {d : Nat} {y : MI} {mc ms pc : Nat} {L : List (Option AV)} {S : List AV} {cl sl : Nat} {sh : List SC} {V : Mem} {Q : Option AV → List SC → Mem → Prop} {adK adV : Nat → Nat}
theorem wp_kwLen (hz : ∀ U H, kZ K U H → SZ adK adV (kB K) U H) (hy : y.1.cls = "ChainIndex$Tape") (hd1 : decode y.2.1 pc = .ok (.ldc 19, 2)) (hd3 : decode y.2.1 (pc + 2) = .ok (.invokevirtual 21, 3)) (hdd : 2 ≤ d) (hW : cats S ≤ 8) (hm : cl ≤ mc ∧ sl ≤ ms) (h : Wp K d y mc ms (pc + 5) L (vI 100 :: S) cl sl sh V Q) : Wp K d y mc ms pc L S cl sl sh V Q := by
  intro p e s m args below meth c H locs ls hC hR hS hLv hV
  obtain ⟨d', rfl⟩ : ∃ d', d = d' + 2 := ⟨d - 2, by omega⟩
  have hts := hC.2.2.2.2.2.1
  have hown := hC.2.2.2.2.1
  rw [hy] at hown
  have hB := hC.2.2.2.2.2.2.2.2.1
  obtain ⟨_, hO, hk⟩ := hC.2.2.2.2.2.2.2.2.2.2.2
  obtain ⟨z1, z2, z3, z4, z5⟩ := hz _ _ hk
  refine va_ldcS hC.1 hC.2.1 hown z5 hd1 ?_
  refine mj_callV (As := []) (rest := S.map (cv K)) (C := "java/lang/String") ⟨hC.1, hC.2.1, hC.2.2.2.1, hown, hts⟩ okJ0_length_8abf5 ljX9_21 imJ0_length_8abf5 seJ0_length_8abf5 rfl (j_length (i := 1) (d := d') hz (by decide)) (by omega) hm hO hk hB hS (vk_recv z1 (by decide) hS) rfl hLv.1 (by rw [cats_cv]; exact hW) hd3 (fun locs1 hS1 => ?_)
  have e2 : (Value.int (Int32.ofNat (lenZ.getD 1 0))) = cv K (vI 100) := by
    show Value.int _ = Value.int (Int32.ofInt 100)
    congr 1
  show W _ _ _ _ _ _ _ _ _ _ _ _ _ _ _ (F0 m (pc + 2 + 3) ls (Value.int _ :: S.map (cv K)))
  rw [e2]
  exact h p e s m args below meth c H locs1 ls hC hR hS1 hLv (okS_c (show r32 100 from by unfold r32; omega) hV)
def kwI (k : Nat) : Int := (kwZ.getD k 0).toInt
theorem wp_kwAt {k : Nat} (hz : ∀ U H, kZ K U H → SZ adK adV (kB K) U H) (hy : y.1.cls = "ChainIndex$Tape") (hd1 : decode y.2.1 pc = .ok (.ldc 19, 2)) (hd2 : decode y.2.1 (pc + 2) = .ok (.iload 4, 2)) (hd3 : decode y.2.1 (pc + 4) = .ok (.invokevirtual 27, 3)) (hL : L[4]? = some (some (vI (k : Int)))) (hk : k < 100) (hdd : 4 ≤ d) (hW : cats S ≤ 8) (hm : cl ≤ mc ∧ sl ≤ ms) (h : Wp K d y mc ms (pc + 7) L (vI (kwI k) :: S) cl sl sh V Q) : Wp K d y mc ms pc L S cl sl sh V Q := by
  intro p e s m args below meth c H locs ls hC hR hS hLv hV
  obtain ⟨d', rfl⟩ : ∃ d', d = d' + 4 := ⟨d - 4, by omega⟩
  have hts := hC.2.2.2.2.2.1
  have hown := hC.2.2.2.2.1
  rw [hy] at hown
  have hB := hC.2.2.2.2.2.2.2.2.1
  obtain ⟨_, hO, hkz⟩ := hC.2.2.2.2.2.2.2.2.2.2.2
  obtain ⟨z1, z2, z3, z4, z5⟩ := hz _ _ hkz
  refine va_ldcS hC.1 hC.2.1 hown z5 hd1 ?_
  refine lv_iload hC.1 hC.2.1 hd2 (hLv.2.2 4 _ hL).1 ?_
  have e1 : (Value.int (Int32.ofInt (k : Int))) = Value.int (Int32.ofNat k) := by rw [c_of k (by omega)]
  rw [e1]
  refine mj_callV (As := [.int (Int32.ofNat k)]) (rest := S.map (cv K)) (C := "java/lang/String") ⟨hC.1, hC.2.1, hC.2.2.2.1, hown, hts⟩ okJ0_charAt_5068e ljX9_27 imJ0_charAt_5068e seJ0_charAt_5068e rfl (j_charAt (d := d') hz hk) (by omega) hm hO hkz hB hS (vk_recv z1 (by decide) hS) rfl hLv.1 (by rw [cats_cv]; exact hW) hd3 (fun locs1 hS1 => ?_)
  have e2 : (Value.int (kwZ.getD k 0)) = cv K (vI (kwI k)) := by
    show Value.int _ = Value.int (Int32.ofInt (kwI k))
    unfold kwI
    rw [Int32.ofInt_toInt]
  show W _ _ _ _ _ _ _ _ _ _ _ _ _ _ _ (F0 m (pc + 4 + 3) ls (Value.int _ :: S.map (cv K)))
  rw [e2]
  exact h p e s m args below meth c H locs1 ls hC hR hS1 hLv (okS_c (show okv (vI (kwI k)) from r32_of _) hV)
end WPC2
