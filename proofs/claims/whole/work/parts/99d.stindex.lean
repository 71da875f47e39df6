/-! ===== index: both sides with the coupling ===== -/
theorem ToldC.congr3 {V V' : Mem} {R BT : Nat} (h : ToldC V R BT) (h1 : ∀ c, 73 ≤ c → c ≤ 102 → V' c = V c) (h2 : ∀ j, j < 140 → V' 375 j = V 375 j) (h3 : ∀ j, j < 8 → V' 377 j = V 377 j) : ToldC V' R BT := by
  obtain ⟨⟨a1, a2, a3, a4, a5, a6, a7⟩, b, c, u1, u2⟩ := h
  refine ⟨⟨by rw [h1 73 (by omega) (by omega)]; exact a1, by rw [h2 0 (by omega)]; exact a2, a3, by rw [h1 73 (by omega) (by omega)]; exact a4, by rw [h2 1 (by omega)]; exact a5, a6, by rw [h1 73 (by omega) (by omega)]; exact a7⟩, fun r hr => ?_, fun k hk => ?_, fun r s hr hs => ?_, fun r s hr hs => ?_⟩
  · obtain ⟨m, b1, b2, b3, b4, b5, b6, b7, b8, b9⟩ := b r hr
    refine ⟨m, by rw [h1 _ (by omega) (by omega)]; exact b1, by rw [h2 _ (by omega)]; exact b2, b3, b4, fun p hp => ?_, by rw [h1 _ (by omega) (by omega), h2 _ (by omega)]; exact b6, by rw [h2 _ (by omega)]; exact b7, by rw [h2 _ (by omega)]; exact b8, by rw [h1 _ (by omega) (by omega), h3 _ (by omega)]; exact b9⟩
    rw [h1 (80 + 2 * r) (by omega) (by omega), h2 _ (by omega)]; exact b5 p hp
  · obtain ⟨n, b1, b2, b3, b4, b5, b6, b7, b8⟩ := c k hk
    refine ⟨n, by rw [h1 _ (by omega) (by omega)]; exact b1, by rw [h2 _ (by omega)]; exact b2, b3, b4, by rw [h1 _ (by omega) (by omega)]; exact b5, fun s hs => ?_, b7.congr (fun s hs => h2 _ (by omega)), by rw [h1 _ (by omega) (by omega), h3 _ (by omega)]; exact b8⟩
    rw [h1 (88 + 2 * k) (by omega) (by omega), h2 _ (by omega)]; exact b6 s hs
  · rw [h3 _ (by omega), h3 _ (by omega)]; exact u1 r s hr hs
  · rw [h3 _ (by omega), h3 _ (by omega)]; exact u2 r s hr hs
theorem Live.congr3 {V V' : Mem} {R B S : Nat} (h : Live V R B S) (h1 : ∀ c, 43 ≤ c → c ≤ 72 → V' c = V c) (h2 : ∀ j, j < 140 → V' 375 j = V 375 j) (h3 : ∀ i, i < 206 → V' 381 i = V 381 i) : Live V' R B S := by
  obtain ⟨a1, a2, a3, a4⟩ := st_congr h h1 h3
  have hR := a1.2.1
  exact ⟨a1.kd (fun r hr => h2 _ (by omega)), a2, a3, a4⟩
theorem MkC.congr3 {V V' : Mem} {R : Nat} (h : MkC V R) (h1 : V' 134 = V 134) (h2 : V' 382 = V 382) (h3 : ∀ j, j < 140 → V' 375 j = V 375 j) (h4 : ∀ c, 249 ≤ c → c ≤ 368 → V' c = V c) (h5 : ∀ j, 206 ≤ j → j < 1030 → V' 381 j = V 381 j) : MkC V' R := by
  intro m hm
  obtain ⟨a, b, c⟩ := h m hm
  rw [h1, h2]
  refine ⟨a, b, fun q => ?_⟩
  obtain ⟨B, S, s⟩ := c q
  obtain ⟨a1, a2, a3, a4⟩ := st_congr (g' := bk V' (206 * (1 + m))) s (fun c _ _ => h4 c (by omega) (by omega)) (fun i hi => h5 _ (by omega) (by omega))
  have hR := a1.2.1
  exact ⟨B, S, a1.kd (fun r hr => h3 _ (by omega)), a2, a3, a4⟩
/-- the coupling behind a good index -/
theorem inv_told {V6 : Mem} {t : Nat → Int} {L R B w : Nat} {C : List (Int × Int)} {rI bI : Nat → Nat}
    (hT : V6 1 2 = 0 ∧ V6 369 2 = 0) (hK : KwC V6) (hV : VD t L R B w C rI bI) (hM : MT V6 t L R B w C rI bI)
    (gR : ∀ r, r < R → gT t L (rI r + 1) = 2) (gB : ∀ b, b < B → gT t L (bI b + 1) = 2)
    (x5 : V6 73 5 = (R : Nat) ∧ V6 73 6 = (B : Nat) ∧ V6 73 7 = 0)
    (xr : ∀ r, r < R → V6 (79 + 2 * r) 1 = wT 32 t L (rI r + 1) ∧ V6 (79 + 2 * r) 2 = cT t L (rI r + 2) - 136 ∧ V6 (79 + 2 * r) 3 = (rwQ t L (rI r) : Nat) ∧ ∀ p, p < rwQ t L (rI r) → V6 (80 + 2 * r) p = nT t L (rI r + 3 + p))
    (xb : ∀ b, b < B → V6 (87 + 2 * b) 1 = wT 32 t L (bI b + 1) ∧ V6 (87 + 2 * b) 2 = (bdQ t L (bI b) : Nat) ∧ V6 (87 + 2 * b) 3 = (b : Nat) ∧ ∀ p, p < bdQ t L (bI b) → V6 (88 + 2 * b) p = nT t L (bI b + 2 + p))
    (y5 : V6 43 5 = (R : Nat) ∧ V6 43 6 = (B : Nat) ∧ V6 43 7 = 0)
    (yr : ∀ r, r < R → V6 (49 + 2 * r) 2 = cT t L (rI r + 2) - 136 ∧ V6 (49 + 2 * r) 3 = (rwQ t L (rI r) : Nat) ∧ ∀ p, p < rwQ t L (rI r) → V6 (50 + 2 * r) p = nT t L (rI r + 3 + p))
    (yb : ∀ b, b < B → V6 (57 + 2 * b) 2 = (bdQ t L (bI b) : Nat) ∧ V6 (57 + 2 * b) 3 = (b : Nat) ∧ ∀ p, p < bdQ t L (bI b) → V6 (58 + 2 * b) p = nT t L (bI b + 2 + p))
    (lx : V6 135 2 = (C.length : Nat) ∧ ∀ j, j < C.length → V6 136 j = ccode (gP C j))
    (o1 : V6 138 3 = 0 ∧ V6 142 3 = 0 ∧ ∀ m, m < 4 → V6 134 m = 0) (o2 : V6 0 17 = (B : Nat))
    (s1 : V6 369 19 = (B : Nat)) (s2 : V6 369 18 = 0) (s3 : V6 378 0 = 0) (s4 : V6 381 181 = 0) (s5 : StI (V6 375) R B (V6 381)) (s6 : ∀ m, m < 4 → V6 382 m = 0) : Inv V6 := by
  obtain ⟨⟨m1, m2, m3, m4, m5, m6⟩, m7, m8, m9⟩ := hM
  obtain ⟨⟨v1, v2⟩, ⟨v3, v4⟩, v5, v6, v7⟩ := hV
  have q20 : ∀ j, rwQ t L j ≤ 20 := fun j => (nr_at 20 (j + 3)).1
  have q10 : ∀ j, bdQ t L j ≤ 10 := fun j => (bq_at (t := t) (L := L) (b := j + 2) 10 0 rfl (fun k hk => by omega)).1
  have num : ∀ j p, p < rwQ t L j → 0 ≤ nT t L (j + 3 + p) ∧ nT t L (j + 3 + p) ≤ 99 := fun j p hp => by
    have q := (nr_at (hi := 99) (t := t) (L := L) 20 (j + 3)).2 p hp
    exact ⟨(tk_n q.1).1, q.2⟩
  have prm : ∀ b, b < B → PermOK (fun s => nT t L (bI b + 2 + s)) (bdQ t L (bI b)) := fun b hb => by
    have gd := (bq_at (t := t) (L := L) (b := bI b + 2) 10 0 rfl (fun k hk => by omega)).2
    have wl : ∀ s, s < bdQ t L (bI b) → nT t L (bI b + 2 + s) < (bdQ t L (bI b) : Nat) := of_decide_eq_true (v3 b hb).2
    refine perm_of (fun s hs => ⟨(tk_n (gd s hs).1).1, wl s hs⟩) (fun s u hs hu e => ?_)
    rcases Nat.lt_trichotomy s u with x | x | x
    · exact absurd e ((gd u hu).2.2 s x)
    · exact x
    · exact absurd e.symm ((gd s hs).2.2 u x)
  refine ⟨gP C, C.length, R, B, 0, B, ⟨0, hT.1, hT.2, by omega, fun k hk => by omega⟩, hK, ⟨⟨x5.1, m1, m3, x5.2.1, m2, m4, x5.2.2⟩, fun r hr => ?_, fun k hk => ?_, fun r s hr hs => ?_, fun r s hr hs => ?_⟩, ⟨⟨lx.1, by omega, lx.2⟩, ?_, PW_wfP v5, ?_⟩, ⟨⟨y5.1, m3, fun r hr => ?_⟩, ⟨y5.2.1, s5.2.1, by omega, fun k hk => ?_⟩, fun k hk => ?_, ⟨y5.2.2, s4, by omega, fun i hi => by omega⟩⟩, fun m hm => ⟨Or.inl (o1.2.2 m hm), by rw [s6 m hm, o1.2.2 m hm], fun q => absurd ((o1.2.2 m hm).symm.trans q) (by decide)⟩, ⟨0, by omega, o1.2.1, s2, fun k hk r hr => ?_, fun k hk => by omega⟩, ⟨0, o1.1, s3, by omega, fun i hi => by omega⟩, by rw [o2, s1]⟩
  · obtain ⟨a1, a2, a3, a4⟩ := xr r hr
    obtain ⟨b1, b2, b3, b4⟩ := m7 r hr
    have k := v1 r hr
    refine ⟨rwQ t L (rI r), a3, b3, b1, q20 _, fun p hp => ?_, by rw [a2, b2], by rw [b2]; omega, by rw [b2]; omega, ?_⟩
    · rw [a4 p hp, b4 p hp]; exact ⟨rfl, num _ p hp⟩
    · rw [a1, m5 r hr]; exact tk_nm (gR r hr)
  · obtain ⟨a1, a2, a3, a4⟩ := xb k hk
    obtain ⟨b1, b2⟩ := m8 k hk
    refine ⟨bdQ t L (bI k), a2, b1, (v3 k hk).1, q10 _, a3, fun s hs => ?_, (prm k hk).congr (fun s hs => b2 s hs), ?_⟩
    · rw [a4 s hs, b2 s hs]
    · rw [a1, m6 k hk]; exact tk_nm (gB k hk)
  · rw [m5 r hr, m5 s hs]; exact v2 r s hr hs
  · rw [m6 r hr, m6 s hs]; exact v4 r s hr hs
  · rcases m9 with ⟨e1, e2, e3⟩ | ⟨e1, e2, e3, e4⟩
    · refine Or.inl ⟨e2, ?_, ?_⟩
      · rw [e3]; rfl
      · rw [e3]; rfl
    · exact Or.inr ⟨0, e2, by omega, fun i hi => by rw [Nat.zero_add]; exact e3 i hi, by rw [Nat.zero_add]; exact e4⟩
  · rcases m9 with ⟨e1, e2, e3⟩ | ⟨e1, e2, e3, e4⟩
    · exact Or.inl e2
    · exact Or.inr e2
  · obtain ⟨a2, a3, a4⟩ := yr r hr
    obtain ⟨b1, b2, b3, b4⟩ := m7 r hr
    obtain ⟨c1, c2⟩ := s5.1 r hr
    refine ⟨rwQ t L (rI r), a3, by rw [c1]; exact b3, b1, q20 _, fun p hp => ?_, ?_⟩
    · have := c2 p (by rw [b3]; omega)
      rw [show 43 + 7 + 2 * r = 50 + 2 * r by omega, a4 p hp, this, b4 p hp]
      exact ⟨rfl, num _ p hp⟩
    · rw [show 43 + 6 + 2 * r = 49 + 2 * r by omega, a2]; exact b2.symm
  · obtain ⟨a2, a3, a4⟩ := yb k hk
    obtain ⟨b1, b2⟩ := m8 k hk
    obtain ⟨c1, c2, c3⟩ := s5.2.2 k hk
    have := q10 (bI k)
    refine ⟨bdQ t L (bI k), a2, by rw [c1]; exact b1, (v3 k hk).1, q10 _, fun s hs => ?_, (prm k hk).congr (fun s hs => by rw [c3 s (by omega)]; exact b2 s hs)⟩
    rw [show 43 + 15 + 2 * k = 58 + 2 * k by omega, a4 s hs, c3 s (by omega), b2 s hs]
  · obtain ⟨a2, a3, a4⟩ := yb k hk
    rw [show 43 + 14 + 2 * k = 57 + 2 * k by omega, a3, (s5.2.2 k hk).2.1]
  · rw [hbk_ge (by omega), (s5.1 r hr).1, (m7 r hr).2.2.1]
    have := (m7 r hr).1
    have := q20 (rI r)
    omega
section STI
variable {K : KK} {d : Nat} {V : Mem}
theorem st_index (hE : kE K = false) (hS : ∀ e, TSg K (d + 1 + e)) (hI : Inv V) : Bth K (d + 34) mX11_index [vR 0] mX12_index [vR 369] V := by
  obtain ⟨P, n, R, B, S, BT, hT, hK, hTo, hLw, hL, hM, hH, hLn, hmd⟩ := id hI
  obtain ⟨L, t1, t2, t3, t4⟩ := hT
  have hR := hTo.1.2.2.1
  have hS2 : ∀ e, TSg K (d + 27 + 1 + e) := fun e => by
    have := hS (27 + e)
    rw [show d + 1 + (27 + e) = d + 27 + 1 + e by omega] at this
    exact this
  refine sX11_index hE ((c_readIndex (d := d + 27) hS2 (tape_te hK t3 t4) t1).use ?_)
  rintro z V1 ⟨a1, a2, a3⟩
  -- the reference, from a memory that has its cells
  have ref : ∀ Z : Mem, (∀ c, 369 ≤ c → Z c = V c) → Mi K (d + 34) mX12_index [vR 369] Z (MIp (V 370) L (ixF (V 370) L 10 ix0) Z) := fun Z hZ => m_index (d := d) (V := Z) (t := V 370) (L := L) (by rw [hZ 369 (by omega)]; exact t2) t3 (fun i _ => by rw [hZ 370 (by omega)]) (fun k hk => by rw [hZ 374 (by omega)]; exact (hK k hk).2)
  generalize hres : ixF (V 370) L 10 ix0 = res at *
  refine ⟨fun c => ?_, fun c => ?_⟩
  · -- a good index
    obtain ⟨xD, xV⟩ := a3 c
    obtain ⟨f, i, R', B', w, C, rI, bI⟩ := res
    obtain ⟨⟨n1, n2, n3, n4, n5, n6⟩, d2, d3, d4, d5, d6, d7⟩ := xD
    dsimp only at n1 n2 n3 n4 n5 n6 d3 d4 d5 d6 d7
    generalize hA : upm (upm V1 1 2 0) 1 3 0 = A
    have A1 : ∀ c, c ≠ 1 → A c = V1 c := fun c p => by rw [← hA, upm_off c p, upm_off c p]
    have A12 : A 1 2 = 0 := by rw [← hA, upm_k (by decide), upm_s]
    clear hA
    refine Mv.use (c_copyStore (d := d + 31) (a := 73) (b := 5) (R := R') (B := B') (S := 0) is73 is5 (by omega) hE (by rw [A1 5 (by decide)]; exact n1) n3 (by rw [A1 5 (by decide)]; exact n2) (by omega) (by rw [A1 5 (by decide)]; exact d2) (by omega) (fun i hi => by omega)) ?_
    rintro V3 ⟨b1, b2⟩
    obtain ⟨⟨e5, e6, e7⟩, er, eb, -⟩ := b2
    have t5 : V3 73 5 = (R' : Nat) := by rw [e5, A1 5 (by decide)]; exact n1
    have t6 : V3 73 6 = (B' : Nat) := by rw [e6, A1 5 (by decide)]; exact n2
    have t7 : V3 73 7 = 0 := by rw [e7, A1 5 (by decide)]; exact d2
    refine Mv.use (c_copyStore (d := d + 31) (a := 43) (b := 73) (R := R') (B := B') (S := 0) is43 is73 (by omega) hE t5 n3 t6 (by omega) t7 (by omega) (fun i hi => by omega)) ?_
    rintro V4 ⟨g1, g2⟩
    obtain ⟨⟨h5, h6, h7⟩, jr, jb, -⟩ := g2
    generalize hB4 : upm (upm (upm (cpm V4 36 (Int.toNat 0) 136 (Int.toNat 0) (Int.toNat 1000)) 135 2 ((cpm V4 36 (Int.toNat 0) 136 (Int.toNat 0) (Int.toNat 1000)) 35 2)) 138 3 0) 142 3 0 = W0
    have wC : ∀ c, c ≠ 135 → c ≠ 136 → c ≠ 138 → c ≠ 142 → W0 c = V4 c := fun c p1 p2 p3 p4 => by rw [← hB4, upm_off c p4, upm_off c p3, upm_off c p1, cpm_off p2]
    have w135 : W0 135 2 = (C.length : Nat) := by
      rw [← hB4, upm_off 135 (by decide), upm_off 135 (by decide), upm_s, cpm_off (by decide), g1 35 (by omega), b1 35 (by omega), A1 35 (by decide)]; exact d6
    have hCl : C.length ≤ 999 := xV.2.2.2.1
    have w136 : ∀ j, j < C.length → W0 136 j = ccode (gP C j) := fun j hj => by
      rw [← hB4, upm_off 136 (by decide), upm_off 136 (by decide), upm_off 136 (by decide), cpm_in (show j < Int.toNat 1000 by show j < 1000; omega), g1 36 (by omega), b1 36 (by omega), A1 36 (by decide)]; exact ycod_at C d7 j hj
    have w138 : W0 138 3 = 0 := by rw [← hB4, upm_off 138 (by decide), upm_s]
    have w142 : W0 142 3 = 0 := by rw [← hB4, upm_s]
    clear hB4
    -- behind the marks
    have fin : ∀ W : Mem, (∀ c, c ≠ 134 → W c = W0 c) → (∀ m, m < 4 → W 134 m = 0) → Mi K (d + 34) mX12_index [vR 369] (upm W 0 17 (W 73 6)) (fun z2 V2 => z2 = 0 ∧ Inv V2) := by
      intro W f1 f2
      have w73 : ∀ c, 73 ≤ c → c ≤ 102 → W c = V3 c := fun c p1 p2 => by rw [f1 c (by omega), wC c (by omega) (by omega) (by omega) (by omega), g1 c (by omega)]
      have w43 : ∀ c, 43 ≤ c → c ≤ 72 → W c = V4 c := fun c p1 p2 => by rw [f1 c (by omega), wC c (by omega) (by omega) (by omega) (by omega)]
      have wV : ∀ c, c = 2 ∨ c = 3 ∨ 369 ≤ c → W c = V c := fun c p => by rw [f1 c (by omega), wC c (by omega) (by omega) (by omega) (by omega), g1 c (by omega), b1 c (by omega), A1 c (by omega)]; exact a1 c (by omega)
      rw [w73 73 (by omega) (by omega), t6]
      refine (ref (upm W 0 17 (B' : Int)) (fun c p => by rw [upm_off c (by omega)]; exact wV c (by omega))).use ?_
      rintro z2 V6 ⟨q1, q2, q3⟩
      have r1 : f = z := a2.symm
      have q1' : z2 = f := q1
      refine ⟨by omega, ?_⟩
      rcases q3 with ⟨q4, _⟩ | ⟨_, q4, q5, q6, q7, q8, q9, q10, q11⟩
      · exact absurd (by omega) q4
      · have e : ∀ c, c ≠ 0 → c ≤ 368 → V6 c = W c := fun c p1 p2 => by rw [q4 c (by omega) (by omega) (by omega) (by omega) (by omega) (by omega) (by omega) (by omega) (by omega) (by omega), upm_off c p1]
        have e0 : V6 0 17 = (B' : Nat) := by rw [q4 0 (by decide) (by decide) (by decide) (by decide) (by decide) (by decide) (by decide) (by decide) (by decide) (by decide), upm_s]
        have e374 : V6 374 = V 374 := by rw [q4 374 (by decide) (by decide) (by decide) (by decide) (by decide) (by decide) (by decide) (by decide) (by decide) (by decide), upm_off 374 (by decide)]; exact wV 374 (by omega)
        have e12 : V6 1 2 = 0 := by rw [e 1 (by decide) (by decide), f1 1 (by decide), wC 1 (by decide) (by decide) (by decide) (by decide), g1 1 (by omega), b1 1 (by omega)]; exact A12
        refine inv_told (t := V 370) (L := L) (R := R') (B := B') (w := w) (C := C) (rI := rI) (bI := bI) ⟨e12, q2⟩ (hK.congr (by rw [e 3 (by decide) (by decide)]; exact wV 3 (by omega)) e374) xV q5 (fun r hr => (n5 r hr).2) (fun b hb => (n6 b hb).2) ⟨?_, ?_, ?_⟩ (fun r hr => ?_) (fun b hb => ?_) ⟨?_, ?_, ?_⟩ (fun r hr => ?_) (fun b hb => ?_) ⟨?_, fun j hj => ?_⟩ ⟨?_, ?_, fun m hm => ?_⟩ e0 q6 q7 q8 q9 q10 q11
        · rw [e 73 (by decide) (by decide), w73 73 (by omega) (by omega)]; exact t5
        · rw [e 73 (by decide) (by decide), w73 73 (by omega) (by omega)]; exact t6
        · rw [e 73 (by decide) (by decide), w73 73 (by omega) (by omega)]; exact t7
        · obtain ⟨⟨k1, k2, k3⟩, k4⟩ := er r hr
          have := (nr_at (hi := 99) (t := V 370) (L := L) 20 (rI r + 3)).1
          rw [show 73 + 6 + 2 * r = 79 + 2 * r by omega, show 5 + 6 + 2 * r = 11 + 2 * r by omega, A1 _ (by omega)] at k1 k2 k3
          rw [e (79 + 2 * r) (by omega) (by omega), e (80 + 2 * r) (by omega) (by omega), w73 _ (by omega) (by omega), w73 _ (by omega) (by omega)]
          refine ⟨by rw [k1]; exact (n5 r hr).1, by rw [k2]; exact (d3 r hr).1, by rw [k3]; exact (d3 r hr).2.1, fun p hp => ?_⟩
          have hp' : p < nrR 99 (V 370) L 20 (rI r + 3) := hp
          have := k4 p (by omega)
          rw [show 73 + 7 + 2 * r = 80 + 2 * r by omega, show 5 + 7 + 2 * r = 12 + 2 * r by omega, A1 _ (by omega)] at this
          rw [this]; exact (d3 r hr).2.2 p hp
        · obtain ⟨⟨k1, k2, k3⟩, k4⟩ := eb b hb
          have := (bq_at (t := V 370) (L := L) (b := bI b + 2) 10 0 rfl (fun k hk => by omega)).1
          rw [show 73 + 14 + 2 * b = 87 + 2 * b by omega, show 5 + 14 + 2 * b = 19 + 2 * b by omega, A1 _ (by omega)] at k1 k2 k3
          rw [e (87 + 2 * b) (by omega) (by omega), e (88 + 2 * b) (by omega) (by omega), w73 _ (by omega) (by omega), w73 _ (by omega) (by omega)]
          refine ⟨by rw [k1]; exact (n6 b hb).1, by rw [k2]; exact (d4 b hb).1, by rw [k3]; exact (d4 b hb).2.1, fun p hp => ?_⟩
          have hp' : p < bqR (V 370) L (bI b + 2) 10 0 := hp
          have := k4 p (by omega)
          rw [show 73 + 15 + 2 * b = 88 + 2 * b by omega, show 5 + 15 + 2 * b = 20 + 2 * b by omega, A1 _ (by omega)] at this
          rw [this]; exact (d4 b hb).2.2 p hp
        · rw [e 43 (by decide) (by decide), w43 43 (by omega) (by omega), h5]; exact t5
        · rw [e 43 (by decide) (by decide), w43 43 (by omega) (by omega), h6]; exact t6
        · rw [e 43 (by decide) (by decide), w43 43 (by omega) (by omega), h7]; exact t7
        · obtain ⟨⟨k1, k2, k3⟩, k4⟩ := er r hr
          obtain ⟨⟨j1, j2, j3⟩, j4⟩ := jr r hr
          have := (nr_at (hi := 99) (t := V 370) (L := L) 20 (rI r + 3)).1
          rw [show 5 + 6 + 2 * r = 11 + 2 * r by omega, A1 _ (by omega)] at k2 k3
          rw [show 43 + 6 + 2 * r = 49 + 2 * r by omega] at j2 j3
          rw [e (49 + 2 * r) (by omega) (by omega), e (50 + 2 * r) (by omega) (by omega), w43 _ (by omega) (by omega), w43 _ (by omega) (by omega)]
          refine ⟨by rw [j2, k2]; exact (d3 r hr).1, by rw [j3, k3]; exact (d3 r hr).2.1, fun p hp => ?_⟩
          have hp' : p < nrR 99 (V 370) L 20 (rI r + 3) := hp
          have y1 := k4 p (by omega)
          have y2 := j4 p (by omega)
          rw [show 5 + 7 + 2 * r = 12 + 2 * r by omega, A1 _ (by omega)] at y1
          rw [show 43 + 7 + 2 * r = 50 + 2 * r by omega] at y2
          rw [y2, y1]; exact (d3 r hr).2.2 p hp
        · obtain ⟨⟨k1, k2, k3⟩, k4⟩ := eb b hb
          obtain ⟨⟨j1, j2, j3⟩, j4⟩ := jb b hb
          have := (bq_at (t := V 370) (L := L) (b := bI b + 2) 10 0 rfl (fun k hk => by omega)).1
          rw [show 5 + 14 + 2 * b = 19 + 2 * b by omega, A1 _ (by omega)] at k2 k3
          rw [show 43 + 14 + 2 * b = 57 + 2 * b by omega] at j2 j3
          rw [e (57 + 2 * b) (by omega) (by omega), e (58 + 2 * b) (by omega) (by omega), w43 _ (by omega) (by omega), w43 _ (by omega) (by omega)]
          refine ⟨by rw [j2, k2]; exact (d4 b hb).1, by rw [j3, k3]; exact (d4 b hb).2.1, fun p hp => ?_⟩
          have hp' : p < bqR (V 370) L (bI b + 2) 10 0 := hp
          have y1 := k4 p (by omega)
          have y2 := j4 p (by omega)
          rw [show 5 + 15 + 2 * b = 20 + 2 * b by omega, A1 _ (by omega)] at y1
          rw [show 43 + 15 + 2 * b = 58 + 2 * b by omega] at y2
          rw [y2, y1]; exact (d4 b hb).2.2 p hp
        · rw [e 135 (by decide) (by decide), f1 135 (by decide)]; exact w135
        · rw [e 136 (by decide) (by decide), f1 136 (by decide)]; exact w136 j hj
        · rw [e 138 (by decide) (by decide), f1 138 (by decide)]; exact w138
        · rw [e 142 (by decide) (by decide), f1 142 (by decide)]; exact w142
        · rw [e 134 (by decide) (by decide)]; exact f2 m hm
    have loop : ∀ k, k ≤ 4 → ∀ W : Mem, (∀ c, c ≠ 134 → W c = W0 c) → (∀ m, m < k → W 134 m = 0) → Wf K (d + 34) mX11_index 82 [some (vR 0), none, some (vI (k : Int))] [] W (fun r V' => ∃ z, r = some (vI z) ∧ Mi K (d + 34) mX12_index [vR 369] V' (fun z2 V2 => z2 = z ∧ Inv V2)) := by
      refine up_ind ?_ ?_
      · intro W f1 f2
        exact sX11_index_82 _ ⟨fun _ => ⟨0, rfl, fin W f1 f2⟩, fun q => absurd (by decide) q⟩
      · intro k hk ih W f1 f2
        refine sX11_index_82 _ ⟨fun q => by omega, fun _ => ?_⟩
        rw [tn, w32_s (i := k) (by omega)]
        refine ⟨⟨by omega, by omega⟩, Or.inl rfl, ih _ (fun c p => by rw [upm_off c p]; exact f1 c p) (fun m hm => ?_)⟩
        by_cases q : m = k
        · rw [q, upm_s]
        · rw [upm_k q]; exact f2 m (by omega)
    exact loop 0 (by omega) W0 (fun _ _ => rfl) (fun m hm => by omega)
  · -- a fault
    refine ⟨z, rfl, (ref _ (fun c p => ?_)).use ?_⟩
    · rw [upm_off c (by omega), upm_off c (by omega)]; exact a1 c (by omega)
    · rintro z2 V6 ⟨q1, q2, q3⟩
      have e0 : z2 = z := by rw [q1, a2]
      refine ⟨e0, ?_⟩
      rcases q3 with ⟨_, q4, q5, q6, q7, q8⟩ | ⟨q4, _⟩
      · have e : ∀ x, (42 < x ∧ x ≤ 368) ∨ x = 0 ∨ x = 2 ∨ x = 3 ∨ x = 370 ∨ x = 374 ∨ 378 ≤ x → V6 x = V x := fun x q => by
          rw [q4 x (by omega) (by omega) (by omega) (by omega) (by omega) (by omega) (by omega), upm_off x (by omega), upm_off x (by omega)]
          exact a1 x (by omega)
        have v1 : ∀ c, 369 ≤ c → (upm (upm V1 1 2 0) 1 3 0) c = V c := fun c p => by rw [upm_off c (by omega), upm_off c (by omega)]; exact a1 c (by omega)
        have e5 : ∀ j, j < 140 → V6 375 j = V 375 j := fun j p => by rw [q6 j p, v1 375 (by omega)]
        have e7 : ∀ j, j < 8 → V6 377 j = V 377 j := fun j p => by rw [q7 j p, v1 377 (by omega)]
        have e6 : ∀ j, j < 1100 → V6 376 j = V 376 j := fun j p => by rw [q8 j p, v1 376 (by omega)]
        have e9 : ∀ q, q ≠ 0 → q ≠ 2 → q ≠ 3 → q ≠ 7 → q ≠ 8 → q ≠ 12 → V6 369 q = V 369 q := fun q w1 w2 w3 w4 w5 w6 => by rw [q5 q w1 w2 w3 w4 w5 w6, v1 369 (by omega)]
        have e12 : V6 1 2 = 0 := by rw [q4 1 (by decide) (by decide) (by decide) (by decide) (by decide) (by decide) (by decide), upm_k (by decide), upm_s]
        exact ⟨P, n, R, B, S, BT, ⟨0, e12, q2, by omega, fun k hk => by omega⟩, hK.congr (e 3 (by omega)) (e 374 (by omega)), hTo.congr3 (fun x w1 w2 => e x (by omega)) e5 e7, hLw.congr (e 135 (by omega)) (e 136 (by omega)) (e5 2 (by omega)) e6, hL.congr3 (fun x w1 w2 => e x (by omega)) e5 (fun i _ => by rw [e 381 (by omega)]), hM.congr3 (e 134 (by omega)) (e 382 (by omega)) e5 (fun x w1 w2 => e x (by omega)) (fun j _ _ => by rw [e 381 (by omega)]), hH.congr hR (fun x w1 w2 => e x (by omega)) (e9 18 (by decide) (by decide) (by decide) (by decide) (by decide) (by decide)) (fun j _ => by rw [e 381 (by omega)]), hLn.congr (fun x w1 w2 => e x (by omega)) (e 378 (by omega)), by rw [e 0 (by omega), e9 19 (by decide) (by decide) (by decide) (by decide) (by decide) (by decide)]; exact hmd⟩
      · exact absurd (e0.symm.trans q4) c
end STI
