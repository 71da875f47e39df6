/-! ===== questions: both sides with the coupling, by program (wip/whole/gen_quest.py) ===== -/
theorem Icore.of {V : Mem} {P : Nat → Int × Int} {n R B S BT : Nat} (hTo : ToldC V R BT) (hLw : LawC V P n) (hL : Live V R B S) : Icore P n R V := by
  refine ⟨hL.1.1, hTo.1.2.1, hTo.1.2.2.1, fun r hr => ?_, hLw.1, hLw.2.1, hLw.2.2.1⟩
  obtain ⟨m, a1, a2, a3, a4, a5, a6⟩ := hL.1.2.2 r hr
  obtain ⟨m', b1, b2, b3, b4, b5, b6, b7, b8, b9⟩ := hTo.2.1 r hr
  refine ⟨⟨m, a1, by rw [Nat.zero_add]; exact a2, a3, a4, fun p hp => ?_⟩, a6, b7, b8⟩
  have := a5 p hp
  rw [show 0 + 4 + 20 * r + p = 4 + 20 * r + p by omega]
  exact this
section QST
variable {K : KK} {d : Nat} {V : Mem}
theorem st_chain (hI : Inv V) (r f t : Int) : Bth K (d + 7) mX11_chain [vR 0, vI r, vI f, vI t] mX12_chain [vR 369, vI r, vI f, vI t] V := by
  obtain ⟨P, n, R, B, S, BT, hT, hK, hTo, hLw, hL, hM, hH, hLn, hmd⟩ := id hI
  have hC := Icore.of hTo hLw hL
  refine Mi.use (x_chain (d := d + 2) hC r f t) (fun z V1 ⟨f1, e1⟩ => ?_)
  have g1 : V1 375 = V 375 := f1 375 (by omega)
  have g2 : V1 381 = V 381 := f1 381 (by omega)
  refine Mi.use (m_chain (d := d + 2) (V := V1) (hC.frX f1) r f t) (fun z2 V2 ⟨f2, e2⟩ => ⟨?_, no_deed (frx_inv hI f1) f2⟩)
  rw [e1, e2]
  delta winC FR wR
  rw [g1, g2]
theorem st_pick (hI : Inv V) (r f t i : Int) : Bth K (d + 7) mX11_pick [vR 0, vI r, vI f, vI t, vI i] mX12_pick [vR 369, vI r, vI f, vI t, vI i] V := by
  obtain ⟨P, n, R, B, S, BT, hT, hK, hTo, hLw, hL, hM, hH, hLn, hmd⟩ := id hI
  have hC := Icore.of hTo hLw hL
  refine Mi.use (x_pick (d := d + 2) hC r f t i) (fun z V1 ⟨f1, e1⟩ => ?_)
  have g1 : V1 375 = V 375 := f1 375 (by omega)
  have g2 : V1 381 = V 381 := f1 381 (by omega)
  refine Mi.use (m_pick (d := d + 2) (V := V1) (hC.frX f1) r f t i) (fun z2 V2 ⟨f2, e2⟩ => ⟨?_, no_deed (frx_inv hI f1) f2⟩)
  rw [e1, e2]
  delta winC FR wR
  rw [g1, g2]
theorem st_ways (hI : Inv V) (r f t : Int) : Bth K (d + 7) mX11_ways [vR 0, vI r, vI f, vI t] mX12_ways [vR 369, vI r, vI f, vI t] V := by
  obtain ⟨P, n, R, B, S, BT, hT, hK, hTo, hLw, hL, hM, hH, hLn, hmd⟩ := id hI
  have hC := Icore.of hTo hLw hL
  refine Mi.use (x_ways (d := d + 2) hC r f t) (fun z V1 ⟨f1, e1⟩ => ?_)
  have g1 : V1 375 = V 375 := f1 375 (by omega)
  have g2 : V1 381 = V 381 := f1 381 (by omega)
  refine Mi.use (m_ways (d := d + 2) (V := V1) (hC.frX f1) r f t) (fun z2 V2 ⟨f2, e2⟩ => ⟨?_, no_deed (frx_inv hI f1) f2⟩)
  rw [e1, e2]
  delta winC FR wR
  rw [g1, g2]
theorem st_must (hI : Inv V) (r f t : Int) : Bth K (d + 7) mX11_must [vR 0, vI r, vI f, vI t] mX12_must [vR 369, vI r, vI f, vI t] V := by
  obtain ⟨P, n, R, B, S, BT, hT, hK, hTo, hLw, hL, hM, hH, hLn, hmd⟩ := id hI
  have hC := Icore.of hTo hLw hL
  refine Mi.use (x_must (d := d + 2) hC r f t) (fun z V1 ⟨f1, e1⟩ => ?_)
  have g1 : V1 375 = V 375 := f1 375 (by omega)
  have g2 : V1 381 = V 381 := f1 381 (by omega)
  refine Mi.use (m_must (d := d + 2) (V := V1) (hC.frX f1) r f t) (fun z2 V2 ⟨f2, e2⟩ => ⟨?_, no_deed (frx_inv hI f1) f2⟩)
  rw [e1, e2]
  delta winC FR wR
  rw [g1, g2]
theorem st_may (hI : Inv V) (r f t : Int) : Bth K (d + 7) mX11_may [vR 0, vI r, vI f, vI t] mX12_may [vR 369, vI r, vI f, vI t] V := by
  obtain ⟨P, n, R, B, S, BT, hT, hK, hTo, hLw, hL, hM, hH, hLn, hmd⟩ := id hI
  have hC := Icore.of hTo hLw hL
  refine Mi.use (x_may (d := d + 2) hC r f t) (fun z V1 ⟨f1, e1⟩ => ?_)
  have g1 : V1 375 = V 375 := f1 375 (by omega)
  have g2 : V1 381 = V 381 := f1 381 (by omega)
  refine Mi.use (m_may (d := d + 2) (V := V1) (hC.frX f1) r f t) (fun z2 V2 ⟨f2, e2⟩ => ⟨?_, no_deed (frx_inv hI f1) f2⟩)
  rw [e1, e2]
  delta winC FR wR
  rw [g1, g2]
theorem st_bare (hI : Inv V) (r f t : Int) : Bth K (d + 7) mX11_bare [vR 0, vI r, vI f, vI t] mX12_bare [vR 369, vI r, vI f, vI t] V := by
  obtain ⟨P, n, R, B, S, BT, hT, hK, hTo, hLw, hL, hM, hH, hLn, hmd⟩ := id hI
  have hC := Icore.of hTo hLw hL
  refine Mi.use (x_bare (d := d + 2) hC r f t) (fun z V1 ⟨f1, e1⟩ => ?_)
  have g1 : V1 375 = V 375 := f1 375 (by omega)
  have g2 : V1 381 = V 381 := f1 381 (by omega)
  refine Mi.use (m_bare (d := d + 2) (V := V1) (hC.frX f1) r f t) (fun z2 V2 ⟨f2, e2⟩ => ⟨?_, no_deed (frx_inv hI f1) f2⟩)
  rw [e1, e2]
  delta winC FR wR
  rw [g1, g2]
theorem st_strand (hI : Inv V) (r p : Int) : Bth K (d + 7) mX11_strand [vR 0, vI r, vI p] mX12_strand [vR 369, vI r, vI p] V := by
  obtain ⟨P, n, R, B, S, BT, hT, hK, hTo, hLw, hL, hM, hH, hLn, hmd⟩ := id hI
  have hC := Icore.of hTo hLw hL
  refine Mi.use (x_strand (d := d + 1) hC r p) (fun z V1 ⟨f1, e1⟩ => ?_)
  have g1 : V1 375 = V 375 := f1 375 (by omega)
  have g2 : V1 381 = V 381 := f1 381 (by omega)
  refine Mi.use (m_strand (d := d + 2) (V := V1) (hC.frX f1) r p) (fun z2 V2 ⟨f2, e2⟩ => ⟨?_, no_deed (frx_inv hI f1) f2⟩)
  rw [e1, e2]
  delta plC FR wR
  rw [g1, g2]
theorem st_under (hI : Inv V) (r f t : Int) : Bth K (d + 7) mX11_under [vR 0, vI r, vI f, vI t] mX12_under [vR 369, vI r, vI f, vI t] V := by
  obtain ⟨P, n, R, B, S, BT, hT, hK, hTo, hLw, hL, hM, hH, hLn, hmd⟩ := id hI
  have hC := Icore.of hTo hLw hL
  refine Mi.use (x_under (d := d + 1) hC r f t) (fun z V1 ⟨f1, e1⟩ => ?_)
  have g1 : V1 375 = V 375 := f1 375 (by omega)
  have g2 : V1 381 = V 381 := f1 381 (by omega)
  refine Mi.use (m_under (d := d + 2) (V := V1) (hC.frX f1) r f t) (fun z2 V2 ⟨f2, e2⟩ => ⟨?_, no_deed (frx_inv hI f1) f2⟩)
  rw [e1, e2]
  delta winC FR wR
  rw [g1, g2]
theorem st_how (hI : Inv V) (r L : Int) : Bth K (d + 7) mX11_how [vR 0, vI r, vI L] mX12_how [vR 369, vI r, vI L] V := by
  obtain ⟨P, n, R, B, S, BT, hT, hK, hTo, hLw, hL, hM, hH, hLn, hmd⟩ := id hI
  have hC := Icore.of hTo hLw hL
  refine Mi.use (x_how (d := d + 1) hC r L) (fun z V1 ⟨f1, e1⟩ => ?_)
  have g1 : V1 375 = V 375 := f1 375 (by omega)
  have g2 : V1 381 = V 381 := f1 381 (by omega)
  refine Mi.use (m_how (d := d + 2) (V := V1) (hC.frX f1) r L) (fun z2 V2 ⟨f2, e2⟩ => ⟨?_, no_deed (frx_inv hI f1) f2⟩)
  rw [e1, e2]
  delta rowC FR wR
  rw [g1, g2]
theorem st_best (hI : Inv V) (r w : Int) : Bth K (d + 7) mX11_best [vR 0, vI r, vI w] mX12_best [vR 369, vI r, vI w] V := by
  obtain ⟨P, n, R, B, S, BT, hT, hK, hTo, hLw, hL, hM, hH, hLn, hmd⟩ := id hI
  have hC := Icore.of hTo hLw hL
  refine Mi.use (x_best (d := d + 1) hC r w) (fun z V1 ⟨f1, e1⟩ => ?_)
  have g1 : V1 375 = V 375 := f1 375 (by omega)
  have g2 : V1 381 = V 381 := f1 381 (by omega)
  refine Mi.use (m_best (d := d + 2) (V := V1) (hC.frX f1) r w) (fun z2 V2 ⟨f2, e2⟩ => ⟨?_, no_deed (frx_inv hI f1) f2⟩)
  rw [e1, e2]
  delta rowC FR wR
  rw [g1, g2]
theorem st_near (hI : Inv V) (r L : Int) : Bth K (d + 7) mX11_near [vR 0, vI r, vI L] mX12_near [vR 369, vI r, vI L] V := by
  obtain ⟨P, n, R, B, S, BT, hT, hK, hTo, hLw, hL, hM, hH, hLn, hmd⟩ := id hI
  have hC := Icore.of hTo hLw hL
  refine Mi.use (x_near (d := d + 1) hC r L) (fun z V1 ⟨f1, e1⟩ => ?_)
  have g1 : V1 375 = V 375 := f1 375 (by omega)
  have g2 : V1 381 = V 381 := f1 381 (by omega)
  refine Mi.use (m_near (d := d + 2) (V := V1) (hC.frX f1) r L) (fun z2 V2 ⟨f2, e2⟩ => ⟨?_, no_deed (frx_inv hI f1) f2⟩)
  rw [e1, e2]
  delta rowC FR wR
  rw [g1, g2]
theorem st_piles (hI : Inv V) (r f t x : Int) : Bth K (d + 7) mX11_piles [vR 0, vI r, vI f, vI t, vI x] mX12_piles [vR 369, vI r, vI f, vI t, vI x] V := by
  obtain ⟨P, n, R, B, S, BT, hT, hK, hTo, hLw, hL, hM, hH, hLn, hmd⟩ := id hI
  have hC := Icore.of hTo hLw hL
  refine Mi.use (x_piles (d := d + 2) hC r f t x) (fun z V1 ⟨f1, e1⟩ => ?_)
  have g1 : V1 375 = V 375 := f1 375 (by omega)
  have g2 : V1 381 = V 381 := f1 381 (by omega)
  refine Mi.use (m_piles (d := d + 2) (V := V1) (hC.frX f1) r f t x) (fun z2 V2 ⟨f2, e2⟩ => ⟨?_, no_deed (frx_inv hI f1) f2⟩)
  rw [e1, e2]
  delta winC wR
  rw [g1, g2]
theorem st_shape (hI : Inv V) (r f t x : Int) : Bth K (d + 7) mX11_shape [vR 0, vI r, vI f, vI t, vI x] mX12_shape [vR 369, vI r, vI f, vI t, vI x] V := by
  obtain ⟨P, n, R, B, S, BT, hT, hK, hTo, hLw, hL, hM, hH, hLn, hmd⟩ := id hI
  have hC := Icore.of hTo hLw hL
  refine Mi.use (x_shape (d := d + 2) hC r f t x) (fun z V1 ⟨f1, e1⟩ => ?_)
  have g1 : V1 375 = V 375 := f1 375 (by omega)
  have g2 : V1 381 = V 381 := f1 381 (by omega)
  refine Mi.use (m_shape (d := d + 2) (V := V1) (hC.frX f1) r f t x) (fun z2 V2 ⟨f2, e2⟩ => ⟨?_, no_deed (frx_inv hI f1) f2⟩)
  rw [e1, e2]
  delta winC wR
  rw [g1, g2]
theorem st_ends (hI : Inv V) (k s : Int) : Bth K (d + 7) mX11_ends [vR 0, vI k, vI s] mX12_ends [vR 369, vI k, vI s] V := by
  obtain ⟨P, n, R, B, S, BT, hT, hK, hTo, hLw, hL, hM, hH, hLn, hmd⟩ := id hI
  have hB := CpBr.of hL.2.1 hL.2.2.1
  refine Mi.use (x_ends (d := d + 6) hB k s) (fun z V1 ⟨f1, e1⟩ => ?_)
  have g1 : V1 375 = V 375 := f1 375 (by omega)
  have g2 : V1 381 = V 381 := f1 381 (by omega)
  have hB1 : CpBr V1 43 (V1 381) B := by
    have h8 := hB.2.2.1
    rw [g2]
    unfold CpBr
    rw [f1 43 (by omega)]
    refine ⟨hB.1, hB.2.1, h8, fun k hk => ?_⟩
    rw [f1 (43 + 14 + 2 * k) (by omega), f1 (43 + 15 + 2 * k) (by omega)]
    exact hB.2.2.2 k hk
  refine Mi.use (m_ends (d := d + 5) (V := V1) hB1 k s) (fun z2 V2 ⟨f2, e2⟩ => ⟨?_, no_deed (frx_inv hI f1) f2⟩)
  rw [e1, e2]
  delta EB stC brC
  rw [g2]
theorem st_counts (hI : Inv V) (k i j : Int) : Bth K (d + 7) mX11_counts [vR 0, vI k, vI i, vI j] mX12_counts [vR 369, vI k, vI i, vI j] V := by
  obtain ⟨P, n, R, B, S, BT, hT, hK, hTo, hLw, hL, hM, hH, hLn, hmd⟩ := id hI
  have hB := CpBr.of hL.2.1 hL.2.2.1
  refine Mi.use (x_counts (d := d + 5) hB k i j) (fun z V1 ⟨f1, e1⟩ => ?_)
  have g1 : V1 375 = V 375 := f1 375 (by omega)
  have g2 : V1 381 = V 381 := f1 381 (by omega)
  have hB1 : CpBr V1 43 (V1 381) B := by
    have h8 := hB.2.2.1
    rw [g2]
    unfold CpBr
    rw [f1 43 (by omega)]
    refine ⟨hB.1, hB.2.1, h8, fun k hk => ?_⟩
    rw [f1 (43 + 14 + 2 * k) (by omega), f1 (43 + 15 + 2 * k) (by omega)]
    exact hB.2.2.2 k hk
  refine Mi.use (m_counts (d := d + 5) (V := V1) hB1 k i j) (fun z2 V2 ⟨f2, e2⟩ => ⟨?_, no_deed (frx_inv hI f1) f2⟩)
  rw [e1, e2]
  delta EB nBr ctC brC
  rw [g2]
theorem st_compose (hI : Inv V) (x y s : Int) : Bth K (d + 7) mX11_compose [vR 0, vI x, vI y, vI s] mX12_compose [vR 369, vI x, vI y, vI s] V := by
  obtain ⟨P, n, R, B, S, BT, hT, hK, hTo, hLw, hL, hM, hH, hLn, hmd⟩ := id hI
  have hB := CpBr.of hL.2.1 hL.2.2.1
  refine Mi.use (x_compose (d := d + 4) hB x y s) (fun z V1 ⟨f1, e1⟩ => ?_)
  have g1 : V1 375 = V 375 := f1 375 (by omega)
  have g2 : V1 381 = V 381 := f1 381 (by omega)
  have hB1 : CpBr V1 43 (V1 381) B := by
    have h8 := hB.2.2.1
    rw [g2]
    unfold CpBr
    rw [f1 43 (by omega)]
    refine ⟨hB.1, hB.2.1, h8, fun k hk => ?_⟩
    rw [f1 (43 + 14 + 2 * k) (by omega), f1 (43 + 15 + 2 * k) (by omega)]
    exact hB.2.2.2 k hk
  refine Mi.use (m_compose (d := d + 4) (V := V1) hB1 x y s) (fun z2 V2 ⟨f2, e2⟩ => ⟨?_, no_deed (frx_inv hI f1) f2⟩)
  rw [e1, e2]
  delta EB nBr alC brC
  rw [g2]
theorem st_power (hI : Inv V) (hE : kE K = false) (k o s : Int) : Bth K (d + 7) mX11_power [vR 0, vI k, vI o, vI s] mX12_power [vR 369, vI k, vI o, vI s] V := by
  obtain ⟨P, n, R, B, S, BT, hT, hK, hTo, hLw, hL, hM, hH, hLn, hmd⟩ := id hI
  have hB := CpBr.of hL.2.1 hL.2.2.1
  refine Mi.use (x_power (d := d + 3) hB hE k o s) (fun z V1 ⟨f1, e1⟩ => ?_)
  have g1 : V1 375 = V 375 := f1 375 (by omega)
  have g2 : V1 381 = V 381 := f1 381 (by omega)
  have hB1 : CpBr V1 43 (V1 381) B := by
    have h8 := hB.2.2.1
    rw [g2]
    unfold CpBr
    rw [f1 43 (by omega)]
    refine ⟨hB.1, hB.2.1, h8, fun k hk => ?_⟩
    rw [f1 (43 + 14 + 2 * k) (by omega), f1 (43 + 15 + 2 * k) (by omega)]
    exact hB.2.2.2 k hk
  refine Mi.use (m_power (d := d + 3) (V := V1) hB1 k o s) (fun z2 V2 ⟨f2, e2⟩ => ⟨?_, no_deed (frx_inv hI f1) f2⟩)
  rw [e1, e2]
  delta EB nBr stC brC
  rw [g2]
theorem st_knit (hI : Inv V) (k i : Int) : Bth K (d + 7) mX11_knit [vR 0, vI k, vI i] mX12_knit [vR 369, vI k, vI i] V := by
  obtain ⟨P, n, R, B, S, BT, hT, hK, hTo, hLw, hL, hM, hH, hLn, hmd⟩ := id hI
  have hB := CpBr.of hL.2.1 hL.2.2.1
  refine Mi.use (x_knit (d := d + 5) hB k i) (fun z V1 ⟨f1, e1⟩ => ?_)
  have g1 : V1 375 = V 375 := f1 375 (by omega)
  have g2 : V1 381 = V 381 := f1 381 (by omega)
  have hB1 : CpBr V1 43 (V1 381) B := by
    have h8 := hB.2.2.1
    rw [g2]
    unfold CpBr
    rw [f1 43 (by omega)]
    refine ⟨hB.1, hB.2.1, h8, fun k hk => ?_⟩
    rw [f1 (43 + 14 + 2 * k) (by omega), f1 (43 + 15 + 2 * k) (by omega)]
    exact hB.2.2.2 k hk
  refine Mi.use (m_knit (d := d + 5) (V := V1) hB1 k i) (fun z2 V2 ⟨f2, e2⟩ => ⟨?_, no_deed (frx_inv hI f1) f2⟩)
  rw [e1, e2]
  delta brC EB nBr
  rw [g2]
theorem st_common (hI : Inv V) (r o f t : Int) : Bth K (d + 7) mX11_common [vR 0, vI r, vI o, vI f, vI t] mX12_common [vR 369, vI r, vI o, vI f, vI t] V := by
  obtain ⟨P, n, R, B, S, BT, hT, hK, hTo, hLw, hL, hM, hH, hLn, hmd⟩ := id hI
  have hC := Icore.of hTo hLw hL
  refine Mi.use (x_common (d := d + 3) hC r o f t) (fun z V1 ⟨f1, e1⟩ => ?_)
  have g1 : V1 375 = V 375 := f1 375 (by omega)
  have g2 : V1 381 = V 381 := f1 381 (by omega)
  refine Mi.use (m_common (d := d + 2) (V := V1) (hC.frX f1) r o f t) (fun z2 V2 ⟨f2, e2⟩ => ⟨?_, no_deed (frx_inv hI f1) f2⟩)
  rw [e1, e2]
  delta winC rowC wR
  rw [g1, g2]
theorem st_meets (hI : Inv V) (r o p : Int) : Bth K (d + 7) mX11_meets [vR 0, vI r, vI o, vI p] mX12_meets [vR 369, vI r, vI o, vI p] V := by
  obtain ⟨P, n, R, B, S, BT, hT, hK, hTo, hLw, hL, hM, hH, hLn, hmd⟩ := id hI
  have hC := Icore.of hTo hLw hL
  refine Mi.use (x_meets (d := d + 2) hC r o p) (fun z V1 ⟨f1, e1⟩ => ?_)
  have g1 : V1 375 = V 375 := f1 375 (by omega)
  have g2 : V1 381 = V 381 := f1 381 (by omega)
  refine Mi.use (m_meets (d := d + 2) (V := V1) (hC.frX f1) r o p) (fun z2 V2 ⟨f2, e2⟩ => ⟨?_, no_deed (frx_inv hI f1) f2⟩)
  rw [e1, e2]
  delta plC rowC wR
  rw [g1, g2]
theorem st_fits (hI : Inv V) (r : Int) : Bth K (d + 7) mX11_fits [vR 0, vI r] mX12_fits [vR 369, vI r] V := by
  obtain ⟨P, n, R, B, S, BT, hT, hK, hTo, hLw, hL, hM, hH, hLn, hmd⟩ := id hI
  have hC := Icore.of hTo hLw hL
  refine Mi.use (x_fits (d := d + 0) hC hL.2.2.2 r) (fun z V1 ⟨f1, e1⟩ => ?_)
  have g1 : V1 375 = V 375 := f1 375 (by omega)
  have g2 : V1 381 = V 381 := f1 381 (by omega)
  refine Mi.use (m_fits (d := d + 1) (V := V1) (hC.frX f1) (by rw [g2]; exact hL.2.2.2.2.1) hL.2.2.2.2.2.1 r) (fun z2 V2 ⟨f2, e2⟩ => ⟨?_, no_deed (frx_inv hI f1) f2⟩)
  rw [e1, e2]
  delta rowC FR wR
  rw [g1, g2]
theorem st_first (hI : Inv V) (r : Int) : Bth K (d + 7) mX11_first [vR 0, vI r] mX12_first [vR 369, vI r] V := by
  obtain ⟨P, n, R, B, S, BT, hT, hK, hTo, hLw, hL, hM, hH, hLn, hmd⟩ := id hI
  have hC := Icore.of hTo hLw hL
  refine Mi.use (x_first (d := d + 1) hC hL.2.2.2 r) (fun z V1 ⟨f1, e1⟩ => ?_)
  have g1 : V1 375 = V 375 := f1 375 (by omega)
  have g2 : V1 381 = V 381 := f1 381 (by omega)
  refine Mi.use (m_first (d := d + 2) (V := V1) (hC.frX f1) (by rw [g2]; exact hL.2.2.2.2.1) hL.2.2.2.2.2.1 r) (fun z2 V2 ⟨f2, e2⟩ => ⟨?_, no_deed (frx_inv hI f1) f2⟩)
  rw [e1, e2]
  delta rowC FR wR
  rw [g1, g2]
theorem st_ask (hI : Inv V) (r : Int) : Bth K (d + 7) mX11_ask [vR 0, vI r] mX12_ask [vR 369, vI r] V := by
  obtain ⟨P, n, R, B, S, BT, hT, hK, hTo, hLw, hL, hM, hH, hLn, hmd⟩ := id hI
  have hC := Icore.of hTo hLw hL
  refine Mi.use (x_ask (d := d + 0) hC hL.2.2.2 r) (fun z V1 ⟨f1, e1⟩ => ?_)
  have g1 : V1 375 = V 375 := f1 375 (by omega)
  have g2 : V1 381 = V 381 := f1 381 (by omega)
  refine Mi.use (m_ask (d := d + 1) (V := V1) (hC.frX f1) (by rw [g2]; exact hL.2.2.2.2.1) hL.2.2.2.2.2.1 r) (fun z2 V2 ⟨f2, e2⟩ => ⟨?_, no_deed (frx_inv hI f1) f2⟩)
  rw [e1, e2]
  delta rowC FR wR
  rw [g1, g2]
theorem st_drawn (hI : Inv V) (s m b w : Int) : Bth K (d + 7) mX11_drawn [vR 0, vI s, vI m, vI b, vI w] mX12_drawn [vR 369, vI s, vI m, vI b, vI w] V := by
  obtain ⟨P, n, R, B, S, BT, hT, hK, hTo, hLw, hL, hM, hH, hLn, hmd⟩ := id hI
  have hC := Icore.of hTo hLw hL
  refine Mi.use (x_drawn (d := d + 1) hC s m b w) (fun z V1 ⟨f1, e1⟩ => ?_)
  have g1 : V1 375 = V 375 := f1 375 (by omega)
  have g2 : V1 381 = V 381 := f1 381 (by omega)
  refine Mi.use (m_drawn (d := d + 2) (V := V1) (hC.frX f1) s m b w) (fun z2 V2 ⟨f2, e2⟩ => ⟨?_, no_deed (frx_inv hI f1) f2⟩)
  rw [e1, e2]
theorem st_braid (hI : Inv V) (k w : Int) : Bth K (d + 7) mX11_braid [vR 0, vI k, vI w] mX12_braid [vR 369, vI k, vI w] V := by
  obtain ⟨P, n, R, B, S, BT, hT, hK, hTo, hLw, hL, hM, hH, hLn, hmd⟩ := id hI
  have hB := CpBr.of hL.2.1 hL.2.2.1
  refine Mi.use (x_braid (d := d + 6) hB k w) (fun z V1 ⟨f1, e1⟩ => ?_)
  have g1 : V1 375 = V 375 := f1 375 (by omega)
  have g2 : V1 381 = V 381 := f1 381 (by omega)
  have hB1 : CpBr V1 43 (V1 381) B := by
    have h8 := hB.2.2.1
    rw [g2]
    unfold CpBr
    rw [f1 43 (by omega)]
    refine ⟨hB.1, hB.2.1, h8, fun k hk => ?_⟩
    rw [f1 (43 + 14 + 2 * k) (by omega), f1 (43 + 15 + 2 * k) (by omega)]
    exact hB.2.2.2 k hk
  refine Mi.use (m_braid (d := d + 5) (V := V1) hB1 k w) (fun z2 V2 ⟨f2, e2⟩ => ⟨?_, no_deed (frx_inv hI f1) f2⟩)
  rw [e1, e2]
  delta brC EB nBr
  rw [g2]
end QST
