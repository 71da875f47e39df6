/-! ===== the tape is made ===== -/
def wlt (w x : Int) : Int := w64 (w64 (w * 32) + w32 (w32 (x - 97) + 1))
/-- behind k signs of the words' text: how many words, the word begun -/
def kST : Nat → Nat × Int
  | 0 => (0, 0)
  | k + 1 => if kwI k = 32 then ((kST k).1 + 1, 0) else ((kST k).1, wlt (kST k).2 (kwI k))
theorem kST_end : (kST 100).1 = 19 := by decide +kernel
theorem kST_w : ∀ k, k < 100 → kwI k = 32 → (kST k).1 < 19 ∧ (kST k).2 = kw32 (kST k).1 := by decide +kernel
theorem kST_le : ∀ k, k < 101 → (kST k).1 ≤ 19 := by decide +kernel
def tpM (n0 : Nat) (V : Mem) (k : Nat) : Mem := fun b j => if b = n0 + 2 ∧ j < (kST k).1 then kw32 j else V b j
theorem tpM_up {n0 k : Nat} {V : Mem} (h : kwI k = 32) : upm (tpM n0 V k) (n0 + 2) (kST k).1 (kw32 (kST k).1) = tpM n0 V (k + 1) := by
  have e : (kST (k + 1)).1 = (kST k).1 + 1 := by
    show (if kwI k = 32 then ((kST k).1 + 1, (0 : Int)) else ((kST k).1, wlt (kST k).2 (kwI k))).1 = _
    rw [if_pos h]
  funext b j
  unfold upm tpM
  rw [e]
  by_cases hb : b = n0 + 2
  · by_cases hj : j = (kST k).1
    · rw [if_pos ⟨hb, hj⟩, if_pos ⟨hb, by omega⟩, hj]
    · rw [if_neg (fun q => hj q.2)]
      by_cases hl : j < (kST k).1
      · rw [if_pos ⟨hb, hl⟩, if_pos ⟨hb, by omega⟩]
      · rw [if_neg (fun q => hl q.2), if_neg (fun q => by have := q.2; omega)]
  · rw [if_neg (fun q => hb q.1), if_neg (fun q => hb q.1), if_neg (fun q => hb q.1)]
theorem tpM_no {n0 k : Nat} {V : Mem} (h : ¬ kwI k = 32) : tpM n0 V k = tpM n0 V (k + 1) := by
  have e : (kST (k + 1)).1 = (kST k).1 := by
    show (if kwI k = 32 then ((kST k).1 + 1, (0 : Int)) else ((kST k).1, wlt (kST k).2 (kwI k))).1 = _
    rw [if_neg h]
  unfold tpM
  rw [e]
theorem tpM_end {n0 : Nat} {V : Mem} (hz : ZV V (n0 + 1)) : tpM n0 V 100 = C9_mem n0 V := by
  funext b j
  unfold tpM C9_mem
  rw [kST_end]
  by_cases hb : b = n0 + 2
  · rw [if_pos hb]
    by_cases hj : j < 19
    · rw [if_pos ⟨hb, hj⟩]
    · rw [if_neg (fun q => hj q.2), hz b (by omega) j]
      unfold kw32
      rw [List.getD_eq_getElem?_getD, List.getElem?_eq_none (by show 19 ≤ j; omega)]
      rfl
  · rw [if_neg hb, if_neg (fun q => hb q.1)]
section TPE
variable {K : KK} {d : Nat} {adK adV : Nat → Nat}
theorem i_withLetter {sh : List SC} {V : Mem} (w x : Int) : Mt K d mX9_withLetter 0 0 [vJ w, vI x] sh V (fun r sh' V' => r = some (vJ (wlt w x)) ∧ sh' = sh ∧ V' = V) := by
  refine Mt.of2 rfl rfl rfl ?_
  refine wp_lload_n dX9_withLetter_0 rfl rfl ?_
  refine wp_ldc2 (z := 32) dX9_withLetter_1 kX9_79 (by decide) ?_
  refine wp_lmul dX9_withLetter_4 ?_
  refine wp_iload_n dX9_withLetter_5 rfl rfl ?_
  refine wp_bipush dX9_withLetter_6 (by decide) ?_
  refine wp_isub dX9_withLetter_8 ?_
  refine wp_iconst dX9_withLetter_9 (by decide) ?_
  refine wp_iadd dX9_withLetter_10 ?_
  refine wp_i2l dX9_withLetter_11 ?_
  refine wp_ladd dX9_withLetter_12 ?_
  exact wp_lreturn dX9_withLetter_13 rfl ⟨rfl, rfl⟩ ⟨rfl, rfl, rfl⟩
theorem ic_C9 (hE : kE K = true) (hz9 : ∀ U H, kZ K U H → SZ adK adV (kB K) U H) (d : Nat) : IC K (d + 6) mX9_init 2 1019 9 9 [] C9 C9_mem := by
  intro pre n0 V hp hz
  refine Mt.of2 (L := enL mX9_init.2.2.1 [vR n0]) rfl rfl rfl ?_
  refine wp_aload_n dX9_init_0 rfl rfl ?_
  refine wp_objInit dX9_init_1 lX9_3 (by omega) (Nat.le_of_ble_eq_true rfl) ?_
  refine wp_aload_n dX9_init_4 rfl rfl ?_
  refine wp_sipush dX9_init_5 (by decide) ?_
  refine wt_newa (c := 13) (t := 1) hp rfl (by decide) dX9_init_8 nwa_char hE (by decide) (hz.mono (by omega)) (by decide) ?_
  refine wt_putF (i := 0) hp rfl dX9_init_10 ffX9_9 rfl rfl rfl (by decide) (Nat.le_of_ble_eq_true rfl) ?_
  refine wp_aload_n dX9_init_13 rfl rfl ?_
  refine wp_bipush dX9_init_14 (by decide) ?_
  refine wt_newa (c := 15) (t := 2) hp rfl (by decide) dX9_init_16 nwa_long hE (by decide) (hz.mono (by omega)) (by decide) ?_
  refine wt_putF (i := 0) hp rfl dX9_init_18 ffX9_15 rfl rfl rfl (by decide) (Nat.le_of_ble_eq_true rfl) ?_
  refine wt_nrm (L2 := [some (vR n0), none, none, none, none, none]) (T2 := C9 n0) (cl2 := 2) (sl2 := 1019) rfl rfl rfl rfl ?_
  refine wp_iconst dX9_init_21 (by decide) ?_
  refine wp_istore_n dX9_init_22 rfl (by decide) rfl ?_
  refine wp_lconst dX9_init_23 rfl ?_
  refine wp_lstore_n dX9_init_24 rfl (by decide) rfl ?_
  refine wp_iconst dX9_init_25 (by decide) ?_
  refine wp_istore dX9_init_26 (by decide) rfl ?_
  have c0 : (pre ++ C9 n0)[n0]? = some (9, 9, [some (n0 + 1), some (n0 + 2), none, none, none, none, none, none, none]) := ap_at (i := 0) hp rfl
  have c2 : (pre ++ C9 n0)[n0 + 2]? = some (15, 19, []) := ap_at (i := 2) hp rfl
  have loop : ∀ k, k ≤ 100 → ∀ x5 : Option AV, Wp K (d + 6) mX9_init 2 1019 28 [some (vR n0), some (vI ((kST k).1 : Int)), some (vJ (kST k).2), none, some (vI (k : Int)), x5] [] 2 1019 (pre ++ C9 n0) (tpM n0 V k) (fun r sh' V' => r = none ∧ sh' = pre ++ C9 n0 ∧ V' = C9_mem n0 V) := by
    refine up_ind ?_ ?_
    · intro x5
      refine wp_iload dX9_init_28 rfl ?_
      refine wp_kwLen hz9 rfl dX9_init_30 dX9_init_32 (by omega) (Nat.le_of_ble_eq_true rfl) ⟨Nat.le_refl _, Nat.le_refl _⟩ ?_
      refine wp_icmp_ge (tgt := 91) dX9_init_35 rfl (fun _ => ?_) (fun q => absurd (by decide) q)
      exact wp_return dX9_init_91 rfl ⟨rfl, rfl⟩ ⟨rfl, rfl, tpM_end hz⟩
    · intro k hk ih x5
      refine wp_iload dX9_init_28 rfl ?_
      refine wp_kwLen hz9 rfl dX9_init_30 dX9_init_32 (by omega) (Nat.le_of_ble_eq_true rfl) ⟨Nat.le_refl _, Nat.le_refl _⟩ ?_
      refine wp_icmp_ge (tgt := 91) dX9_init_35 rfl (fun q => by omega) (fun _ => ?_)
      refine wp_kwAt (k := k) hz9 rfl dX9_init_38 dX9_init_40 dX9_init_42 rfl hk (by omega) (Nat.le_of_ble_eq_true rfl) ⟨Nat.le_refl _, Nat.le_refl _⟩ ?_
      refine wp_istore dX9_init_45 (by decide) rfl ?_
      refine wp_iload dX9_init_47 rfl ?_
      refine wp_bipush dX9_init_49 (by decide) ?_
      refine wp_icmp_eq (tgt := 64) dX9_init_51 rfl (fun q => ?_) (fun q => ?_)
      · obtain ⟨w1, w2⟩ := kST_w k hk q
        have es : kST (k + 1) = ((kST k).1 + 1, 0) := if_pos q
        refine wp_iload_n dX9_init_64 rfl rfl ?_
        refine wp_aload_n dX9_init_65 rfl rfl ?_
        refine wp_getR (b := n0 + 2) dX9_init_66 fX9_15 rfl c0 (by decide) rfl ?_
        refine wp_alen dX9_init_69 c2 (by decide) (by decide) ?_
        refine wp_icmp_ge (tgt := 85) dX9_init_70 rfl (fun q2 => by omega) (fun _ => ?_)
        refine wp_aload_n dX9_init_73 rfl rfl ?_
        refine wp_getR (b := n0 + 2) dX9_init_74 fX9_15 rfl c0 (by decide) rfl ?_
        refine wp_iload_n dX9_init_77 rfl rfl ?_
        refine wp_lload_n dX9_init_78 rfl rfl ?_
        refine wp_last dX9_init_79 c2 ⟨by omega, by omega⟩ ?_
        rw [tn, w2, tpM_up q]
        refine wp_iinc dX9_init_80 rfl rfl ?_
        refine wp_lconst dX9_init_83 rfl ?_
        refine wp_lstore_n dX9_init_84 rfl (by decide) rfl ?_
        refine wp_iinc dX9_init_85 rfl rfl ?_
        refine wp_goto (tgt := 28) dX9_init_88 rfl ?_
        have := ih (some (vI (kwI k)))
        rw [es] at this
        rw [w32_s (i := (kST k).1) (by omega), w32_s (i := k) (by omega)]
        exact this
      · have es : kST (k + 1) = ((kST k).1, wlt (kST k).2 (kwI k)) := if_neg q
        refine wp_lload_n dX9_init_54 rfl rfl ?_
        refine wp_iload dX9_init_55 rfl ?_
        refine wp_callS (S := []) (as := [vJ (kST k).2, vI (kwI k)]) dX9_init_57 lX9_31 (i_withLetter (d := d) _ _) (by omega) rfl rfl (Nat.le_of_ble_eq_true rfl) (by decide) ?_
        rintro r sh' V' ⟨rfl, rfl, rfl⟩
        refine wp_lstore_n dX9_init_60 rfl (by decide) rfl ?_
        refine wp_goto (tgt := 85) dX9_init_61 rfl ?_
        refine wp_iinc dX9_init_85 rfl rfl ?_
        refine wp_goto (tgt := 28) dX9_init_88 rfl ?_
        have := ih (some (vI (kwI k)))
        rw [es] at this
        rw [w32_s (i := k) (by omega), tpM_no q]
        exact this
  have e0 : tpM n0 V 0 = V := by
    funext b j
    unfold tpM
    rw [if_neg (fun q => absurd q.2 (Nat.not_lt_zero j))]
  have := loop 0 (by omega) none
  rw [e0] at this
  exact this
end TPE
