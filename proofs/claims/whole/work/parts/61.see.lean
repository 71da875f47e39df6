/-! ===== see, mark, row, item, count: both sides with the coupling ===== -/
/-- the coupling in a memory of which the store that lives, and what is seen, is another -/
theorem inv_live {V V' : Mem} {P : Nat → Int × Int} {n R S BT B : Nat} (hT : TapeC V) (hK : KwC V) (hTo : ToldC V R BT) (hLw : LawC V P n) (hM : MkC V R) (hH : HsC V R) (hLn : LnC V R BT) (hmd : V 0 17 = V 369 19) (hc : ∀ c, ¬ (43 ≤ c ∧ c ≤ 72) → c ≠ 369 → c ≠ 381 → V' c = V c) (h9 : ∀ j, j ≠ 0 → V' 369 j = V 369 j) (h8 : ∀ j, j < 181 ∨ 206 ≤ j → V' 381 j = V 381 j) (hl : Live V' R B S) : Inv V' := by
  have hR := hTo.1.2.2.1
  exact ⟨P, n, R, B, S, BT, hT.congr (by rw [hc 1 (by omega) (by omega) (by omega)]) (hc 2 (by omega) (by omega) (by omega)) (hc 370 (by omega) (by omega) (by omega)) (h9 2 (by omega)), hK.congr (hc 3 (by omega) (by omega) (by omega)) (hc 374 (by omega) (by omega) (by omega)), hTo.congr (fun c q1 q2 => hc c (by omega) (by omega) (by omega)) (hc 375 (by omega) (by omega) (by omega)) (hc 377 (by omega) (by omega) (by omega)), hLw.congr (hc 135 (by omega) (by omega) (by omega)) (hc 136 (by omega) (by omega) (by omega)) (by rw [hc 375 (by omega) (by omega) (by omega)]) (fun j _ => by rw [hc 376 (by omega) (by omega) (by omega)]), hl, hM.congr (hc 134 (by omega) (by omega) (by omega)) (hc 382 (by omega) (by omega) (by omega)) (hc 375 (by omega) (by omega) (by omega)) (fun c q1 q2 => hc c (by omega) (by omega) (by omega)) (fun j q1 q2 => h8 j (by omega)), hH.congr hR (fun c q1 q2 => hc c (by omega) (by omega) (by omega)) (h9 18 (by omega)) (fun j q => h8 j (by omega)), hLn.congr (fun c q1 q2 => hc c (by omega) (by omega) (by omega)) (hc 378 (by omega) (by omega) (by omega)), by rw [hc 0 (by omega) (by omega) (by omega), h9 19 (by omega)]; exact hmd⟩
section SEE
variable {K : KK} {d : Nat} {V : Mem}
theorem ixq {S : Nat} (h : S < 8) : w32 (182 + w32 (3 * (S : Int))) = ((182 + 3 * S : Nat) : Int) := ixs h
theorem st_see (hI : Inv V) (r l m : Int) (hm : m = 0 ∨ m = 1) : Bth K (d + 2) mX11_see [vR 0, vI r, vI l, vI m] mX12_see [vR 369, vI r, vI l, vI m] V := by
  obtain ⟨P, n, R, B, S, BT, hT, hK, hTo, hLw, hL, hM, hH, hLn, hmd⟩ := id hI
  obtain ⟨s1, s2, s3, s4⟩ := hL.2.2.2
  have hx := hL.1.1
  have hr0 := hTo.1.2.1
  have hR := hTo.1.2.2.1
  have f0 : FrM V (upm V 369 0 0) := FrM.th 0
  have no : (¬ ((0 ≤ r ∧ r < V 375 0) ∧ (1 ≤ l ∧ l ≤ 20) ∧ S < 8)) → ∃ z, some (vI 0) = some (vI z) ∧ Mi K (d + 2) mX12_see [vR 369, vI r, vI l, vI m] V (fun z2 V2 => z2 = z ∧ Inv V2) := by
    intro c
    refine ⟨_, rfl, sX12_see r l m ((m_isRow (d := d) r).use ?_)⟩
    rw [f0.c375]
    by_cases q : 0 ≤ r ∧ r < V 375 0
    · rw [if_pos q]
      refine ⟨fun c => absurd c (by decide), fun _ => (m_within (d := d + 1) _ _ _).use ?_⟩
      by_cases q2 : 1 ≤ l ∧ l ≤ 20
      · rw [if_pos q2]
        refine ⟨fun c => absurd c (by decide), fun _ => ⟨fun c2 => absurd ?_ c2, fun _ => ⟨_, rfl, rfl, inv_th hI⟩⟩⟩
        rw [f0.c381, s2]
        omega
      · rw [if_neg q2]
        exact ⟨fun _ => ⟨_, rfl, rfl, inv_th hI⟩, fun c => absurd rfl c⟩
    · rw [if_neg q]
      exact ⟨fun _ => ⟨_, rfl, rfl, inv_th hI⟩, fun c => absurd rfl c⟩
  refine sX11_see r l m ⟨fun c => no (by omega), fun c1 => ⟨fun c => no (by omega), fun c2 => ⟨⟨by omega, by omega⟩, fun c => no (by omega), fun c3 => ⟨fun c4 => ?_, fun c => no (by omega)⟩⟩⟩⟩
  rw [upm_a (b := 43) (a := 48) (by decide), upm_a (b := 43) (a := 47) (by decide), upm_a (b := 43) (a := 46) (by decide), s1, tn, w32_s (i := S) (by omega)]
  refine ⟨fun c5 => ⟨⟨by omega, by omega⟩, ⟨by omega, by omega⟩, ⟨by omega, by omega⟩, hm, _, rfl, ?_⟩, fun c => no (by omega)⟩
  generalize hV1 : upm (upm (upm (upm V 46 S r) 47 S l) 48 S m) 43 7 ((S + 1 : Nat) : Int) = V1
  have e1 : ∀ c, c ≠ 43 → c ≠ 46 → c ≠ 47 → c ≠ 48 → V1 c = V c := fun c q1 q2 q3 q4 => by rw [← hV1, upm_off c q1, upm_off c q4, upm_off c q3, upm_off c q2]
  have e43 : ∀ j, j ≠ 7 → V1 43 j = V 43 j := fun j q => by rw [← hV1, upm_k q, upm_off 43 (by decide), upm_off 43 (by decide), upm_off 43 (by decide)]
  have e437 : V1 43 7 = ((S + 1 : Nat) : Int) := by rw [← hV1, upm_s]
  have e46 : ∀ i, V1 46 i = if i = S then r else V 46 i := fun i => by
    rw [← hV1, upm_a (by decide), upm_a (by decide), upm_a (by decide)]
    by_cases c : i = S
    · rw [c, if_pos rfl, upm_s]
    · rw [if_neg c, upm_k c]
  have e47 : ∀ i, V1 47 i = if i = S then l else V 47 i := fun i => by
    rw [← hV1, upm_a (by decide), upm_a (by decide)]
    by_cases c : i = S
    · rw [c, if_pos rfl, upm_s]
    · rw [if_neg c, upm_k c, upm_a (by decide)]
  have e48 : ∀ i, V1 48 i = if i = S then m else V 48 i := fun i => by
    rw [← hV1, upm_a (by decide)]
    by_cases c : i = S
    · rw [c, if_pos rfl, upm_s]
    · rw [if_neg c, upm_k c, upm_a (by decide), upm_a (by decide)]
  have f1 : FrM V1 (upm V1 369 0 0) := FrM.th 0
  have e81 : (upm V1 369 0 0) 381 = V 381 := by rw [f1.c381, e1 381 (by decide) (by decide) (by decide) (by decide)]
  refine sX12_see r l m ((m_isRow (d := d) r).use ?_)
  rw [f1.c375, e1 375 (by decide) (by decide) (by decide) (by decide), if_pos ⟨by omega, by omega⟩]
  refine ⟨fun c => absurd c (by decide), fun _ => (m_within (d := d + 1) _ _ _).use ?_⟩
  rw [if_pos ⟨by omega, by omega⟩]
  refine ⟨fun c => absurd c (by decide), fun _ => ?_⟩
  rw [e81, s2, ixs (show S < 8 by omega), ixs1 (show S < 8 by omega), ixs2 (show S < 8 by omega)]
  simp only [tn]
  refine ⟨fun _ => ⟨⟨by omega, by omega⟩, ⟨by omega, by omega⟩, ?_⟩, fun c => by omega⟩
  have fin : ∀ z : Int, z = m → ∃ y, some (vI 1) = some (vI y) ∧ y = 1 ∧ Inv (upm (upm (upm (upm (upm V1 369 0 0) 381 (182 + 3 * S) r) 381 (183 + 3 * S) l) 381 (184 + 3 * S) z) 381 181 (w32 ((upm (upm (upm (upm V1 369 0 0) 381 (182 + 3 * S) r) 381 (183 + 3 * S) l) 381 (184 + 3 * S) z) 381 181 + 1))) := by
    intro z hz
    refine ⟨_, rfl, rfl, ?_⟩
    rw [upm_k (show (181 : Nat) ≠ 184 + 3 * S by omega), upm_k (show (181 : Nat) ≠ 183 + 3 * S by omega), upm_k (show (181 : Nat) ≠ 182 + 3 * S by omega), e81, s2, w32_s (i := S) (by omega)]
    generalize hV2 : upm (upm (upm (upm (upm V1 369 0 0) 381 (182 + 3 * S) r) 381 (183 + 3 * S) l) 381 (184 + 3 * S) z) 381 181 ((S + 1 : Nat) : Int) = V2
    have g1 : ∀ c, c ≠ 369 → c ≠ 381 → V2 c = V1 c := fun c q1 q2 => by rw [← hV2, upm_off c q2, upm_off c q2, upm_off c q2, upm_off c q2, upm_off c q1]
    have g2 : ∀ j, j ≠ 0 → V2 369 j = V1 369 j := fun j q => by rw [← hV2, upm_a (by decide), upm_a (by decide), upm_a (by decide), upm_a (by decide), upm_k q]
    have g3 : V2 381 181 = ((S + 1 : Nat) : Int) := by rw [← hV2, upm_s]
    have g4 : ∀ j, j ≠ 181 → j ≠ 182 + 3 * S → j ≠ 183 + 3 * S → j ≠ 184 + 3 * S → V2 381 j = V 381 j := fun j q1 q2 q3 q4 => by rw [← hV2, upm_k q1, upm_k q4, upm_k q3, upm_k q2, e81]
    have g5 : V2 381 (182 + 3 * S) = r := by rw [← hV2, upm_k (by omega), upm_k (by omega), upm_k (by omega), upm_s]
    have g6 : V2 381 (183 + 3 * S) = l := by rw [← hV2, upm_k (by omega), upm_k (by omega), upm_s]
    have g7 : V2 381 (184 + 3 * S) = m := by rw [← hV2, upm_k (by omega), upm_s, hz]
    have ek : kdV V2 = kdV V := by funext q; show V2 375 _ = V 375 _; rw [g1 375 (by decide) (by decide), e1 375 (by decide) (by decide) (by decide) (by decide)]
    refine inv_live (B := B) (S := S + 1) hT hK hTo hLw hM hH hLn hmd (fun c q1 q2 q3 => by rw [g1 c q2 q3, e1 c (by omega) (by omega) (by omega) (by omega)]) (fun j q => by rw [g2 j q, e1 369 (by decide) (by decide) (by decide) (by decide)]) (fun j q => g4 j (by omega) (by omega) (by omega) (by omega)) ?_
    unfold Live
    rw [ek]
    refine ⟨hL.1.congr (by rw [g1 43 (by decide) (by decide)]; exact e43 5 (by decide)) (fun q hq => ⟨by rw [g1 _ (by omega) (by omega), e1 _ (by omega) (by omega) (by omega) (by omega)], by rw [g1 _ (by omega) (by omega), e1 _ (by omega) (by omega) (by omega) (by omega)]⟩) (fun i hi => g4 i (by omega) (by omega) (by omega) (by omega)), hL.2.1.congr (by rw [g1 43 (by decide) (by decide)]; exact e43 6 (by decide)) (fun k hk => ?_) (fun i _ _ => g4 i (by omega) (by omega) (by omega) (by omega)), hL.2.2.1.congr hL.2.1.2.2.1 (fun k hk => ?_) (fun i _ _ => g4 i (by omega) (by omega) (by omega) (by omega)), ⟨by rw [g1 43 (by decide) (by decide)]; exact e437, g3, by omega, fun i hi => ?_⟩⟩
    · have := hL.2.1.2.2.1
      exact ⟨by rw [g1 _ (by omega) (by omega), e1 _ (by omega) (by omega) (by omega) (by omega)], by rw [g1 _ (by omega) (by omega), e1 _ (by omega) (by omega) (by omega) (by omega)]⟩
    · have := hL.2.1.2.2.1
      rw [g1 _ (by omega) (by omega), e1 _ (by omega) (by omega) (by omega) (by omega)]
    · rw [show (43 + 3 : Nat) = 46 from rfl, show (43 + 4 : Nat) = 47 from rfl, show (43 + 5 : Nat) = 48 from rfl, g1 46 (by decide) (by decide), g1 47 (by decide) (by decide), g1 48 (by decide) (by decide), e46, e47, e48]
      by_cases c : i = S
      · subst c
        rw [if_pos rfl, if_pos rfl, if_pos rfl, g5, g6, g7]
        exact ⟨rfl, rfl, rfl, hm⟩
      · rw [if_neg c, if_neg c, if_neg c, g4 _ (by omega) (by omega) (by omega) (by omega), g4 _ (by omega) (by omega) (by omega) (by omega), g4 _ (by omega) (by omega) (by omega) (by omega)]
        exact s4 i (by omega)
  exact ⟨fun c => ⟨⟨by omega, by omega⟩, fin 0 c.symm⟩, fun c => ⟨⟨by omega, by omega⟩, fin 1 (by omega)⟩⟩
theorem ix1206 {k : Nat} (h : k < 4) : w32 (206 * w32 (1 + (k : Int))) = ((206 * (1 + k) : Nat) : Int) := by rw [w32_id (x := 1 + (k : Int)) (by omega) (by omega), w32_id (by omega) (by omega)]; omega
theorem st_mark (hI : Inv V) (hE : kE K = false) (m b : Int) : Bth K (d + 3) mX11_mark [vR 0, vI m, vI b] mX12_mark [vR 369, vI m, vI b] V := by
  obtain ⟨P, n, R, B, S, BT, hT, hK, hTo, hLw, hL, hM, hH, hLn, hmd⟩ := id hI
  obtain ⟨s1, s2, s3, s4⟩ := hL.2.2.2
  have hR := hTo.1.2.2.1
  have f0 : FrM V (upm V 369 0 0) := FrM.th 0
  have no : ¬ (0 ≤ m ∧ m ≤ 3) → ∃ z, some (vI 0) = some (vI z) ∧ Mi K (d + 3) mX12_mark [vR 369, vI m, vI b] V (fun z2 V2 => z2 = z ∧ Inv V2) := by
    intro c
    refine ⟨_, rfl, sX12_mark m b ((m_within (d := d + 2) _ _ _).use ?_)⟩
    rw [if_neg c]
    exact ⟨fun _ => sX12_mark_27 ⟨_, rfl, rfl, inv_th hI⟩, fun c => absurd rfl c⟩
  refine sX11_mark m b ⟨fun c => no (by omega), fun c1 => ⟨fun c2 => ?_, fun c => no (by omega)⟩⟩
  obtain ⟨k, rfl⟩ : ∃ k : Nat, m = k := ⟨m.toNat, by omega⟩
  have hk : k < 4 := by omega
  obtain ⟨y1, y2, y3⟩ := hM k hk
  have hst : IsStore (249 + 30 * k) := by
    have := obj133 (k := (k : Int)) ⟨by omega, by omega⟩
    rw [tn] at this
    exact this
  simp only [tn]
  refine ⟨fun cb => ⟨⟨by omega, by omega⟩, fun cl => ⟨⟨by omega, by omega⟩, ?_⟩, fun cl => ⟨_, rfl, ?_⟩⟩, fun cb => ⟨⟨by omega, by omega⟩, ?_⟩⟩
  · -- back
    obtain ⟨B2, S2, p1, p2, p3, p4⟩ := y3 (by omega)
    refine (c_copyStore (d := d) (R := R) (B := B2) (S := S2) is43 hst (by omega) hE p1.1 p1.2.1 p2.1 p2.2.2.1 p4.1 p4.2.2.1 (fun i hi => by rw [(p4.2.2.2 i hi).2.2.1]; exact (p4.2.2.2 i hi).2.2.2)).use (fun V1 ⟨k1, k2⟩ => ⟨_, rfl, ?_⟩)
    generalize hV3 : upm V1 142 3 0 = V3
    have e3 : ∀ c, ¬ (43 ≤ c ∧ c ≤ 72) → c ≠ 142 → V3 c = V c := fun c q1 q2 => by rw [← hV3, upm_off c q2, k1 c (by omega)]
    have e31 : ∀ c, c ≠ 142 → V3 c = V1 c := fun c q => by rw [← hV3, upm_off c q]
    have e142 : V3 142 3 = 0 := by rw [← hV3, upm_s]
    have f3 : FrM V3 (upm V3 369 0 0) := FrM.th 0
    have g382 : (upm V3 369 0 0) 382 k = 1 := by rw [upm_off 382 (by decide), e3 382 (by omega) (by omega), y2]; omega
    refine sX12_mark _ _ ((m_within (d := d + 2) _ _ _).use ?_)
    rw [if_pos ⟨by omega, by omega⟩, tn]
    refine ⟨fun c => absurd c (by decide), fun _ => ⟨fun c => absurd c cb, fun _ => ⟨⟨by omega, by omega⟩, fun _ => sX12_mark_29 _ _ ⟨⟨by omega, by omega⟩, Or.inr rfl, fun c => absurd c cb, fun _ => sX12_mark_52 _ _ _ ⟨fun c => absurd c cb, fun _ => sX12_mark_67 _ _ _ ?_⟩⟩, fun c => by omega⟩⟩⟩
    rw [ix1206 hk, tn]
    generalize hV4 : upm (upm V3 369 0 0) 382 k 1 = V4
    have e4 : ∀ c, c ≠ 369 → c ≠ 382 → V4 c = V3 c := fun c q1 q2 => by rw [← hV4, upm_off c q2, upm_off c q1]
    have e49 : ∀ j, j ≠ 0 → V4 369 j = V3 369 j := fun j q => by rw [← hV4, upm_a (by decide), upm_k q]
    have e4m : ∀ j, V4 382 j = V 382 j := fun j => by
      rw [← hV4]
      by_cases c : j = k
      · rw [c, upm_s, y2]; omega
      · rw [upm_k c, upm_off 382 (by decide), e3 382 (by omega) (by omega)]
    refine Mv.use (m_moves (d := d + 2) (V := V4) (x := 206 * (1 + k)) (y := 0) (m := 206) (by omega) (by omega) (by omega)) (fun V5 ⟨v1, v2, v3⟩ => ⟨fun c => absurd c cb, fun _ => sX12_mark_86 _ ⟨_, rfl, rfl, ?_⟩⟩)
    generalize hV6 : upm V5 369 18 0 = V6
    have e6 : ∀ c, c ≠ 369 → c ≠ 381 → c ≠ 382 → V6 c = V3 c := fun c q1 q2 q3 => by rw [← hV6, upm_off c q1, v1 c q2, e4 c q1 q3]
    have e618 : V6 369 18 = 0 := by rw [← hV6, upm_s]
    have e69 : ∀ j, j ≠ 0 → j ≠ 18 → V6 369 j = V 369 j := fun j q1 q2 => by rw [← hV6, upm_k q2, v1 369 (by decide), e49 j q1, e3 369 (by omega) (by omega)]
    have e682 : V6 382 = V 382 := by rw [← hV6, upm_off 382 (by decide), v1 382 (by decide)]; exact funext e4m
    have e681 : ∀ i, i < 206 → V6 381 i = V 381 (206 * (1 + k) + i) := fun i hi => by
      have := v3 i hi
      rw [Nat.zero_add] at this
      rw [← hV6, upm_a (by decide), this, e4 381 (by decide) (by decide), e3 381 (by omega) (by omega)]
    have e681b : ∀ j, 206 ≤ j → V6 381 j = V 381 j := fun j hj => by rw [← hV6, upm_a (by decide), v2 j (by omega), e4 381 (by decide) (by decide), e3 381 (by omega) (by omega)]
    have e : ∀ c, ¬ (43 ≤ c ∧ c ≤ 72) → c ≠ 142 → c ≠ 369 → c ≠ 381 → c ≠ 382 → V6 c = V c := fun c q1 q2 q3 q4 q5 => by rw [e6 c q3 q4 q5, e3 c q1 q2]
    have ek : kdV V6 = kdV V := by funext q; show V6 375 _ = V 375 _; rw [e 375 (by omega) (by omega) (by omega) (by omega) (by omega)]
    have hl : Live V6 R B2 S2 := by
      unfold Live
      rw [ek]
      exact st_congr (V := V1) (g := bk V (206 * (1 + k))) ⟨k2.rw p1, k2.b0 p2, k2.md p3, k2.seen p4⟩ (fun c q1 q2 => by rw [e6 c (by omega) (by omega) (by omega), e31 c (by omega)]) (fun i hi => e681 i hi)
    refine ⟨P, n, R, B2, S2, BT, hT.congr ?_ (e 2 (by omega) (by omega) (by omega) (by omega) (by omega)) (e 370 (by omega) (by omega) (by omega) (by omega) (by omega)) (e69 2 (by omega) (by omega)), hK.congr (e 3 (by omega) (by omega) (by omega) (by omega) (by omega)) (e 374 (by omega) (by omega) (by omega) (by omega) (by omega)), hTo.congr (fun c q1 q2 => e c (by omega) (by omega) (by omega) (by omega) (by omega)) (e 375 (by omega) (by omega) (by omega) (by omega) (by omega)) (e 377 (by omega) (by omega) (by omega) (by omega) (by omega)), hLw.congr (e 135 (by omega) (by omega) (by omega) (by omega) (by omega)) (e 136 (by omega) (by omega) (by omega) (by omega) (by omega)) (by rw [e 375 (by omega) (by omega) (by omega) (by omega) (by omega)]) (fun j _ => by rw [e 376 (by omega) (by omega) (by omega) (by omega) (by omega)]), hl, hM.congr (e 134 (by omega) (by omega) (by omega) (by omega) (by omega)) e682 (e 375 (by omega) (by omega) (by omega) (by omega) (by omega)) (fun c q1 q2 => e c (by omega) (by omega) (by omega) (by omega) (by omega)) (fun j q1 q2 => e681b j q1), ⟨0, by omega, by rw [e6 142 (by decide) (by decide) (by decide)]; exact e142, e618, fun q hq r hr => ?_, fun q hq => absurd hq (Nat.not_lt_zero q)⟩, hLn.congr (fun c q1 q2 => e c (by omega) (by omega) (by omega) (by omega) (by omega)) (e 378 (by omega) (by omega) (by omega) (by omega) (by omega)), ?_⟩
    · rw [e 1 (by omega) (by omega) (by omega) (by omega) (by omega)]
    · rw [hbk_ge (by omega)]
      obtain ⟨w, -, w2, w3, w4, -⟩ := hl.1.2.2 r hr
      omega
    · rw [e 0 (by omega) (by omega) (by omega) (by omega) (by omega), e69 19 (by omega) (by omega)]; exact hmd
  · -- back, but nothing is laid
    refine sX12_mark _ _ ((m_within (d := d + 2) _ _ _).use ?_)
    rw [if_pos ⟨by omega, by omega⟩, tn, upm_off 382 (by decide), y2]
    exact ⟨fun c => absurd c (by decide), fun _ => ⟨fun c => absurd c cb, fun _ => ⟨⟨by omega, by omega⟩, fun c => absurd cl c, fun _ => sX12_mark_27 ⟨_, rfl, rfl, inv_th hI⟩⟩⟩⟩
  · -- laid
    refine (c_copyStore (d := d) (R := R) (B := B) (S := S) hst is43 (by omega) hE hL.1.1 hL.1.2.1 hL.2.1.1 hL.2.1.2.2.1 s1 s3 (fun i hi => by rw [(s4 i hi).2.2.1]; exact (s4 i hi).2.2.2)).use (fun V1 ⟨k1, k2⟩ => ⟨⟨by omega, by omega⟩, Or.inr trivial, _, rfl, ?_⟩)
    generalize hV3 : upm V1 134 k 1 = V3
    have e31 : ∀ c, c ≠ 134 → V3 c = V1 c := fun c q => by rw [← hV3, upm_off c q]
    have e3 : ∀ c, c < 249 + 30 * k ∨ 279 + 30 * k ≤ c → c ≠ 134 → V3 c = V c := fun c q1 q2 => by rw [e31 c q2, k1 c (by omega)]
    have e134 : ∀ j, V3 134 j = if j = k then 1 else V 134 j := fun j => by
      rw [← hV3]
      by_cases c : j = k
      · rw [c, upm_s, if_pos rfl]
      · rw [upm_k c, if_neg c, k1 134 (by omega)]
    refine sX12_mark _ _ ((m_within (d := d + 2) _ _ _).use ?_)
    rw [if_pos ⟨by omega, by omega⟩, tn]
    refine ⟨fun c => absurd c (by decide), fun _ => ⟨fun _ => sX12_mark_29 _ _ ⟨⟨by omega, by omega⟩, Or.inr rfl, fun _ => sX12_mark_52 _ _ _ ⟨fun _ => sX12_mark_67 _ _ _ ?_, fun c => absurd cb c⟩, fun c => absurd cb c⟩, fun c => absurd cb c⟩⟩
    rw [ix1206 hk, tn]
    generalize hV4 : upm (upm V3 369 0 0) 382 k 1 = V4
    have e4 : ∀ c, c ≠ 369 → c ≠ 382 → V4 c = V3 c := fun c q1 q2 => by rw [← hV4, upm_off c q2, upm_off c q1]
    have e49 : ∀ j, j ≠ 0 → V4 369 j = V3 369 j := fun j q => by rw [← hV4, upm_a (by decide), upm_k q]
    have e4m : ∀ j, V4 382 j = if j = k then 1 else V 382 j := fun j => by
      rw [← hV4]
      by_cases c : j = k
      · rw [c, upm_s, if_pos rfl]
      · rw [upm_k c, if_neg c, upm_off 382 (by decide), e3 382 (by omega) (by omega)]
    refine Mv.use (m_moves (d := d + 2) (V := V4) (x := 0) (y := 206 * (1 + k)) (m := 206) (by omega) (by omega) (by omega)) (fun V5 ⟨v1, v2, v3⟩ => ⟨fun _ => sX12_mark_86 _ ⟨_, rfl, rfl, ?_⟩, fun c => absurd cb c⟩)
    generalize hV6 : upm V5 369 18 (V5 369 18) = V6
    have e6 : ∀ c, c ≠ 369 → c ≠ 381 → c ≠ 382 → V6 c = V3 c := fun c q1 q2 q3 => by rw [← hV6, upm_off c q1, v1 c q2, e4 c q1 q3]
    have e69 : ∀ j, j ≠ 0 → V6 369 j = V 369 j := fun j q1 => by
      rw [← hV6]
      by_cases c : j = 18
      · rw [c, upm_s, v1 369 (by decide), e49 18 (by decide), e3 369 (by omega) (by omega)]
      · rw [upm_k c, v1 369 (by decide), e49 j q1, e3 369 (by omega) (by omega)]
    have e682 : ∀ j, V6 382 j = if j = k then 1 else V 382 j := fun j => by rw [← hV6, upm_off 382 (by decide), v1 382 (by decide)]; exact e4m j
    have e681 : ∀ i, i < 206 → V6 381 (206 * (1 + k) + i) = V 381 i := fun i hi => by
      rw [← hV6, upm_a (by decide), v3 i hi, e4 381 (by decide) (by decide), e3 381 (by omega) (by omega), Nat.zero_add]
    have e681b : ∀ j, j < 206 * (1 + k) ∨ 206 * (1 + k) + 206 ≤ j → V6 381 j = V 381 j := fun j hj => by rw [← hV6, upm_a (by decide), v2 j (by omega), e4 381 (by decide) (by decide), e3 381 (by omega) (by omega)]
    have e : ∀ c, c < 249 ∨ 369 < c → c ≠ 134 → c ≠ 381 → c ≠ 382 → V6 c = V c := fun c q1 q2 q3 q4 => by rw [e6 c (by omega) q3 q4, e3 c (by omega) q2]
    have ek : kdV V6 = kdV V := by funext q; show V6 375 _ = V 375 _; rw [e 375 (by omega) (by omega) (by omega) (by omega)]
    refine ⟨P, n, R, B, S, BT, hT.congr ?_ (e 2 (by omega) (by omega) (by omega) (by omega)) (e 370 (by omega) (by omega) (by omega) (by omega)) (e69 2 (by omega)), hK.congr (e 3 (by omega) (by omega) (by omega) (by omega)) (e 374 (by omega) (by omega) (by omega) (by omega)), hTo.congr (fun c q1 q2 => e c (by omega) (by omega) (by omega) (by omega)) (e 375 (by omega) (by omega) (by omega) (by omega)) (e 377 (by omega) (by omega) (by omega) (by omega)), hLw.congr (e 135 (by omega) (by omega) (by omega) (by omega)) (e 136 (by omega) (by omega) (by omega) (by omega)) (by rw [e 375 (by omega) (by omega) (by omega) (by omega)]) (fun j _ => by rw [e 376 (by omega) (by omega) (by omega) (by omega)]), hL.congr (fun c q1 q2 => e c (by omega) (by omega) (by omega) (by omega)) (e 375 (by omega) (by omega) (by omega) (by omega)) (fun i hi => e681b i (by omega)), fun q hq => ?_, hH.congr hR (fun c q1 q2 => e c (by omega) (by omega) (by omega) (by omega)) (e69 18 (by omega)) (fun j q => e681b j (by omega)), hLn.congr (fun c q1 q2 => e c (by omega) (by omega) (by omega) (by omega)) (e 378 (by omega) (by omega) (by omega) (by omega)), ?_⟩
    · rw [e 1 (by omega) (by omega) (by omega) (by omega)]
    · rw [e6 134 (by decide) (by decide) (by decide), e134, e682, ek]
      by_cases c : q = k
      · subst c
        rw [if_pos rfl, if_pos rfl]
        refine ⟨Or.inr rfl, rfl, fun _ => ⟨B, S, ?_⟩⟩
        exact st_congr (V := V1) (g := V 381) ⟨k2.rw hL.1, k2.b0 hL.2.1, k2.md hL.2.2.1, k2.seen hL.2.2.2⟩ (fun c q1 q2 => by rw [e6 c (by omega) (by omega) (by omega), e31 c (by omega)]) (fun i hi => e681 i hi)
      · rw [if_neg c, if_neg c]
        obtain ⟨z1, z2, z3⟩ := hM q hq
        refine ⟨z1, z2, fun h1 => ?_⟩
        obtain ⟨B3, S3, z4⟩ := z3 h1
        exact ⟨B3, S3, st_congr z4 (fun c q1 q2 => by rw [e6 c (by omega) (by omega) (by omega), e3 c (by omega) (by omega)]) (fun i hi => e681b _ (by omega))⟩
    · rw [e 0 (by omega) (by omega) (by omega) (by omega), e69 19 (by omega)]; exact hmd
end SEE
