/-! ===== work ===== -/
section STX
variable {K : KK} {d : Nat} {V : Mem}
theorem tape_te {L : Nat} (hK : KwC V) (t1 : L ≤ 1000) (t2 : ∀ k, k < L → V 2 k = V 370 k ∧ (V 370 k = 10 ∨ (32 ≤ V 370 k ∧ V 370 k ≤ 126))) : TE V (V 370) L :=
  ⟨t1, fun i hi => (t2 i hi).1, fun k hk => (hK k hk).1, fun i hi => by have := (t2 i hi).2; omega⟩
theorem told_tn {R BT : Nat} (hT : ToldC V R BT) : TN V (V 377) R BT := by
  obtain ⟨⟨a1, a2, a3, a4, a5, a6, a7⟩, b, c, u1, u2⟩ := hT
  exact ⟨a1, a3, a4, a6, fun r hr => by obtain ⟨m, _, _, _, _, _, _, _, _, h⟩ := b r hr; exact h, fun k hk => by obtain ⟨m, _, _, _, _, _, _, _, h⟩ := c k hk; exact h, u1, u2⟩
/-- the reference's part of work, from a memory with the reference's told cells -/
theorem m_work {L R BT : Nat} (h2 : V 369 2 = (L : Nat)) (hL : L ≤ 1000) (hR : V 375 0 = (R : Nat)) (hR4 : R ≤ 4) (hB : V 375 1 = (BT : Nat)) (hB4 : BT ≤ 4) (hK : ∀ k, k < 19 → V 374 k = kw37 k) : Mi K (d + 5) mX12_work [vR 369] V (fun z V' => (∀ c, c ≠ 369 → c ≠ 371 → c ≠ 372 → c ≠ 373 → c ≠ 378 → V' c = V c) ∧ (∀ j, j ≠ 0 → j ≠ 2 → j ≠ 3 → j ≠ 7 → j ≠ 8 → V' 369 j = V 369 j) ∧ V' 369 2 = 0 ∧ z = (wkF (V 377) R BT (V 370) L 31 0 0 (fun _ => 0)).1 ∧ (z ≠ 0 → ∀ j, j < 95 → V' 378 j = V 378 j) ∧ (z = 0 → V' 378 0 = ((wkF (V 377) R BT (V 370) L 31 0 0 (fun _ => 0)).2.1 : Nat) ∧ ∀ k, k < (wkF (V 377) R BT (V 370) L 31 0 0 (fun _ => 0)).2.1 → V' 378 (1 + 3 * k) = cT (V 370) L ((wkF (V 377) R BT (V 370) L 31 0 0 (fun _ => 0)).2.2 k) - 131 ∧ V' 378 (2 + 3 * k) = lnA (V 377) R BT (V 370) L ((wkF (V 377) R BT (V 370) L 31 0 0 (fun _ => 0)).2.2 k) ∧ V' 378 (3 + 3 * k) = lnB (V 377) BT (V 370) L ((wkF (V 377) R BT (V 370) L 31 0 0 (fun _ => 0)).2.2 k))) := by
  refine sX12_work (Mv.use (m_cutAll (d := d + 1) (V := upm V 369 0 0) (t := V 370) (L := L) (by rw [upm_k (by decide)]; exact h2) hL (fun i _ => by rw [upm_off 370 (by decide)])) ?_)
  rintro U ⟨N, u1, u2, u3, u4, u5, u6, u7, u8, u9⟩
  have eU : ∀ c, c ≠ 369 → c ≠ 371 → c ≠ 372 → c ≠ 373 → U c = V c := fun c p1 p2 p3 p4 => by rw [u1 c p1 p2 p3 p4, upm_off c p1]
  generalize hres : wkF (V 377) R BT (V 370) L 31 0 0 (fun _ => 0) = res
  refine (m_workLoop (d := d) (U := U) (res := res) (nm := V 377) hL u8 (by rw [eU 375 (by decide) (by decide) (by decide) (by decide)]; exact hR) hR4 (by rw [eU 375 (by decide) (by decide) (by decide) (by decide)]; exact hB) hB4 (eU 377 (by decide) (by decide) (by decide) (by decide)) 31 0 0 (fun _ => 0) rfl hres (by omega) U (fun _ _ _ => rfl) (fun _ _ _ => rfl) (fun _ _ => rfl) ⟨u4, Nat.zero_le _, by omega, u9, fun k hk => by rw [eU 374 (by decide) (by decide) (by decide) (by decide)]; exact hK k hk⟩ u5 (fun k hk => by omega)).imp ?_
  rintro r V' ⟨z, z1, z2, z3, z4, z5, z6⟩
  refine ⟨z, z1, fun c p1 p2 p3 p4 p5 => by rw [z2 c p1 p5]; exact eU c p1 p2 p3 p4, fun j p1 p2 p3 p4 p5 => by rw [z3 j p4 p5, u2 j p2 p3 p4 p5, upm_k p1], by rw [z3 2 (by decide) (by decide)]; exact u3, z4, fun q j hj => by rw [z5 q j hj, eU 378 (by decide) (by decide) (by decide) (by decide)], z6⟩
theorem st_work (hS : ∀ e, TSg K (d + 1 + e)) (hI : Inv V) : Bth K (d + 6) mX11_work [vR 0] mX12_work [vR 369] V := by
  obtain ⟨P, n, R, B, S, BT, hT, hK, hTo, hLw, hL, hM, hH, hLn, hmd⟩ := id hI
  obtain ⟨L, t1, t2, t3, t4⟩ := hT
  have hR := hTo.1.2.2.1
  have hr0 := hTo.1.2.1
  have hb0 := hTo.1.2.2.2.2.1
  have hB := hTo.1.2.2.2.2.2.1
  refine sX11_work ((c_readWork (d := d) hS (tape_te hK t3 t4) (told_tn hTo) t1).use ?_)
  rintro z V1 ⟨a1, a2, a3⟩
  have hok := wkF_ok (nm := V 377) (R := R) (BT := BT) (t := V 370) (L := L) 31 0 0 (fun _ => 0) rfl (by omega) (fun k hk => by omega)
  -- what the class left; then the reference
  have go : ∀ V3 : Mem, (∀ c, c ≠ 1 → c ≠ 4 → c ≠ 38 → c ≠ 39 → c ≠ 40 → c ≠ 41 → c ≠ 138 → c ≠ 139 → c ≠ 140 → c ≠ 141 → V3 c = V c) → V3 1 2 = 0 → (z ≠ 0 → ∀ c, 138 ≤ c → c ≤ 141 → V3 c = V c) → (z = 0 → V3 138 3 = ((wkF (V 377) R BT (V 370) L 31 0 0 (fun _ => 0)).2.1 : Nat) ∧ ∀ k, k < (wkF (V 377) R BT (V 370) L 31 0 0 (fun _ => 0)).2.1 → V3 139 k = cT (V 370) L ((wkF (V 377) R BT (V 370) L 31 0 0 (fun _ => 0)).2.2 k) ∧ V3 140 k = lnA (V 377) R BT (V 370) L ((wkF (V 377) R BT (V 370) L 31 0 0 (fun _ => 0)).2.2 k) ∧ V3 141 k = lnB (V 377) BT (V 370) L ((wkF (V 377) R BT (V 370) L 31 0 0 (fun _ => 0)).2.2 k)) → Mi K (d + 6) mX12_work [vR 369] V3 (fun z2 V2 => z2 = z ∧ Inv V2) := by
    intro V3 e3 c2 cb cg
    have e375 : V3 375 = V 375 := e3 375 (by decide) (by decide) (by decide) (by decide) (by decide) (by decide) (by decide) (by decide) (by decide) (by decide)
    have e377 : V3 377 = V 377 := e3 377 (by decide) (by decide) (by decide) (by decide) (by decide) (by decide) (by decide) (by decide) (by decide) (by decide)
    have e370 : V3 370 = V 370 := e3 370 (by decide) (by decide) (by decide) (by decide) (by decide) (by decide) (by decide) (by decide) (by decide) (by decide)
    have e369 : V3 369 = V 369 := e3 369 (by decide) (by decide) (by decide) (by decide) (by decide) (by decide) (by decide) (by decide) (by decide) (by decide)
    have e374 : V3 374 = V 374 := e3 374 (by decide) (by decide) (by decide) (by decide) (by decide) (by decide) (by decide) (by decide) (by decide) (by decide)
    have e378 : V3 378 = V 378 := e3 378 (by decide) (by decide) (by decide) (by decide) (by decide) (by decide) (by decide) (by decide) (by decide) (by decide)
    have hm := m_work (K := K) (d := d + 1) (V := V3) (L := L) (R := R) (BT := BT) (by rw [e369]; exact t2) t3 (by rw [e375]; exact hr0) hR (by rw [e375]; exact hb0) hB (fun k hk => by rw [e374]; exact (hK k hk).2)
    rw [e377, e370] at hm
    refine hm.use ?_
    clear hm
    generalize wkF (V 377) R BT (V 370) L 31 0 0 (fun _ => 0) = res at *
    rintro z2 V6 ⟨m1, m2, m3, m4, m5, m6⟩
    have ez : z2 = z := by rw [m4, a2]
    refine ⟨ez, ?_⟩
    have e : ∀ x, (42 ≤ x ∧ x ≤ 137) ∨ (142 ≤ x ∧ x ≤ 368) ∨ x = 0 ∨ x = 2 ∨ x = 3 ∨ x = 370 ∨ (374 ≤ x ∧ x ≤ 377) ∨ (379 ≤ x) → V6 x = V x := fun x q => by
      rw [m1 x (by omega) (by omega) (by omega) (by omega) (by omega)]
      exact e3 x (by omega) (by omega) (by omega) (by omega) (by omega) (by omega) (by omega) (by omega) (by omega) (by omega)
    have e13 : ∀ x, 138 ≤ x → x ≤ 141 → V6 x = V3 x := fun x q1 q2 => m1 x (by omega) (by omega) (by omega) (by omega) (by omega)
    have e9 : ∀ q, q ≠ 0 → q ≠ 2 → q ≠ 3 → q ≠ 7 → q ≠ 8 → V6 369 q = V 369 q := fun q w1 w2 w3 w4 w5 => by rw [m2 q w1 w2 w3 w4 w5, e369]
    refine ⟨P, n, R, B, S, BT, ⟨0, by rw [m1 1 (by decide) (by decide) (by decide) (by decide) (by decide)]; exact c2, m3, by omega, fun k hk => by omega⟩, hK.congr (e 3 (by omega)) (e 374 (by omega)), hTo.congr (fun x w1 w2 => e x (by omega)) (e 375 (by omega)) (e 377 (by omega)), hLw.congr (e 135 (by omega)) (e 136 (by omega)) (by rw [e 375 (by omega)]) (fun j _ => by rw [e 376 (by omega)]), hL.congr (fun x w1 w2 => e x (by omega)) (e 375 (by omega)) (fun i _ => by rw [e 381 (by omega)]), hM.congr (e 134 (by omega)) (e 382 (by omega)) (e 375 (by omega)) (fun x w1 w2 => e x (by omega)) (fun j _ _ => by rw [e 381 (by omega)]), hH.congr hR (fun x w1 w2 => e x (by omega)) (e9 18 (by decide) (by decide) (by decide) (by decide) (by decide)) (fun j _ => by rw [e 381 (by omega)]), ?_, by rw [e 0 (by omega), e9 19 (by decide) (by decide) (by decide) (by decide) (by decide)]; exact hmd⟩
    by_cases c : z = 0
    · obtain ⟨g1, g2⟩ := cg c
      obtain ⟨k1, k2⟩ := m6 (by rw [ez]; exact c)
      obtain ⟨o1, o2⟩ := hok (by rw [← a2]; exact c)
      refine ⟨res.2.1, by rw [e13 138 (by omega) (by omega)]; exact g1, k1, o1, fun i hi => ?_⟩
      obtain ⟨x1, x2, x3⟩ := g2 i hi
      obtain ⟨y1, y2, y3⟩ := k2 i hi
      rw [e13 139 (by omega) (by omega), e13 140 (by omega) (by omega), e13 141 (by omega) (by omega), x1, x2, x3, y1, y2, y3]
      exact ⟨by omega, rfl, rfl, ln_ok (o2 i hi)⟩
    · exact hLn.congr2 (fun x w1 w2 => by rw [e13 x w1 w2]; exact cb c x w1 w2) (fun j hj => by rw [m5 (by rw [ez]; exact c) j hj, e378])
  have e1 : ∀ c, c ≠ 1 → c ≠ 4 → c ≠ 38 → c ≠ 39 → c ≠ 40 → c ≠ 41 → (upm (upm V1 1 2 0) 1 3 0) c = V c := fun c p1 p2 p3 p4 p5 p6 => by rw [upm_off c p1, upm_off c p1]; exact a1 c p1 p2 p3 p4 p5 p6
  have e12 : (upm (upm V1 1 2 0) 1 3 0) 1 2 = 0 := by rw [upm_k (by decide), upm_s]
  refine ⟨fun c => ⟨z, rfl, go _ (fun c p1 p2 p3 p4 p5 p6 _ _ _ _ => e1 c p1 p2 p3 p4 p5 p6) e12 (fun _ c q1 q2 => e1 c (by omega) (by omega) (by omega) (by omega) (by omega) (by omega)) (fun q => absurd q c)⟩, fun c => ?_⟩
  obtain ⟨x1, x2⟩ := a3 c
  have o1 := (hok (by rw [← a2]; exact c)).1
  refine Mv.use (c_copyDeeds (d := d + 3) (V := upm (upm V1 1 2 0) 1 3 0) (n := (wkF (V 377) R BT (V 370) L 31 0 0 (fun _ => 0)).2.1) (by rw [upm_off 38 (by decide), upm_off 38 (by decide)]; exact x1) o1) ?_
  rintro V3 ⟨y1, y2, y3⟩
  refine ⟨z, rfl, go V3 (fun c p1 p2 p3 p4 p5 p6 p7 p8 p9 p10 => by rw [y1 c (by omega)]; exact e1 c p1 p2 p3 p4 p5 p6) (by rw [y1 1 (by omega)]; exact e12) (fun q => absurd c q) (fun _ => ⟨y2, fun k hk => ?_⟩)⟩
  obtain ⟨w1, w2, w3⟩ := y3 k hk
  obtain ⟨v1, v2, v3⟩ := x2 k hk
  rw [upm_off 39 (by decide), upm_off 39 (by decide)] at w1
  rw [upm_off 40 (by decide), upm_off 40 (by decide)] at w2
  rw [upm_off 41 (by decide), upm_off 41 (by decide)] at w3
  exact ⟨w1.trans v1, w2.trans v2, w3.trans v3⟩
end STX
