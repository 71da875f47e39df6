/-! ===== judged: both sides with the coupling ===== -/
theorem ixl1 {i : Nat} (h : i < 30) : w32 (1 + w32 (3 * (i : Int))) = ((1 + 3 * i : Nat) : Int) := by rw [w32_id (x := 3 * (i : Int)) (by omega) (by omega), w32_id (by omega) (by omega)]; omega
theorem ixl2 {i : Nat} (h : i < 30) : w32 (((1 + 3 * i : Nat) : Int) + 1) = ((2 + 3 * i : Nat) : Int) := by rw [w32_id (by omega) (by omega)]; omega
theorem ixl3 {i : Nat} (h : i < 30) : w32 (((1 + 3 * i : Nat) : Int) + 2) = ((3 + 3 * i : Nat) : Int) := by rw [w32_id (by omega) (by omega)]; omega
def gIni (I : Nat → Int) (i : Nat) : Int := if i < 4 then I (4 + 22 * i) else if i < 84 then I (5 + 22 * ((i - 4) / 20) + (i - 4) % 20) else if i = 84 then I 1 else if i < 93 then I (91 + 11 * (i - 85)) else if i < 101 then ((i - 93 : Nat) : Int) else I (92 + 11 * ((i - 101) / 10) + (i - 101) % 10)
theorem gIni_I {I : Nat → Int} {R BT : Nat} (hR : R ≤ 4) (hB : I 1 = BT) (hB4 : BT ≤ 4) (hm : ∀ r, r < R → 1 ≤ I (4 + 22 * r) ∧ I (4 + 22 * r) ≤ 20) : StI I R BT (gIni I) := by
  refine ⟨fun r hr => ⟨if_pos (by omega), fun p hp => ?_⟩, ?_, fun k hk => ⟨?_, ?_, fun s hs => ?_⟩⟩
  · have := hm r hr
    unfold gIni
    rw [if_neg (by omega), if_pos (by omega), show (4 + 20 * r + p - 4) / 20 = r by omega, show (4 + 20 * r + p - 4) % 20 = p by omega]
  · unfold gIni
    rw [if_neg (by omega), if_neg (by omega), if_pos rfl]; exact hB
  · unfold gIni
    rw [if_neg (by omega), if_neg (by omega), if_neg (by omega), if_pos (by omega), show 85 + k - 85 = k by omega]
  · unfold gIni
    rw [if_neg (by omega), if_neg (by omega), if_neg (by omega), if_neg (by omega), if_pos (by omega), show 93 + k - 93 = k by omega]
  · unfold gIni
    rw [if_neg (by omega), if_neg (by omega), if_neg (by omega), if_neg (by omega), if_neg (by omega), show (101 + 10 * k + s - 101) / 10 = k by omega, show (101 + 10 * k + s - 101) % 10 = s by omega]
/-- the told store is as the index tells it -/
theorem told_rw {V : Mem} {R BT : Nat} {h : Nat → Int} (hT : ToldC V R BT) (hs : StI (V 375) R BT h) : CpRw V 73 h (kdV V) R ∧ CpB0 V 73 h BT ∧ CpMd V 73 h BT := by
  obtain ⟨⟨a1, a2, a3, a4, a5, a6, a7⟩, b, c, -⟩ := hT
  refine ⟨⟨a1, a3, fun r hr => ?_⟩, ⟨a4, hs.2.1, by omega, fun k hk => ?_⟩, fun k hk => ?_⟩
  · obtain ⟨m, m1, m2, m3, m4, m5, m6, -⟩ := b r hr
    obtain ⟨s1, s2⟩ := hs.1 r hr
    rw [m2] at s1 s2
    rw [tn] at s2
    exact ⟨m, m1, s1, m3, m4, fun p hp => by rw [s2 p hp]; exact m5 p hp, m6⟩
  · obtain ⟨n, n1, n2, n3, n4, n5, n6, n7, -⟩ := c k hk
    obtain ⟨s1, s2, s3⟩ := hs.2.2 k hk
    exact ⟨n, n1, s1.trans n2, n3, n4, fun s hs => by rw [s3 s (by omega)]; exact n6 s hs, n7.congr (fun s hs => s3 s (by omega))⟩
  · obtain ⟨n, n1, n2, n3, n4, n5, n6, n7, -⟩ := c k hk
    obtain ⟨s1, s2, s3⟩ := hs.2.2 k hk
    exact n5.trans s2.symm
section JUD
variable {K : KK} {d : Nat} {V : Mem} {R BT B : Nat} {g kd : Nat → Int} {v w x : Int}
theorem c_doLine (h1 : CpRw V 103 g kd R) (h2 : CpB0 V 103 g B) (hB : BT ≤ B) (hl : lnOK R BT v w x) : Mi K (d + 4) mX11_doLine [vR 0, vR 103, vI (131 + v), vI w, vI x] V (fun z V' => (∀ c, ¬ (103 ≤ c ∧ c ≤ 132) → c < 210 ∨ 245 ≤ c → V' c = V c) ∧ ((z = 1 ∧ canD v w x g) ∨ (z = 0 ∧ ¬ canD v w x g)) ∧ CpRw V' 103 (gNx v w x g) kd R ∧ ∃ B', BT ≤ B' ∧ CpB0 V' 103 (gNx v w x g) B') := by
  have hR := h1.2.1
  have h84 := h2.2.1
  have hB8 := h2.2.2.1
  have same : ¬ canD v w x g → CpRw V 103 (gNx v w x g) kd R ∧ ∃ B', BT ≤ B' ∧ CpB0 V 103 (gNx v w x g) B' := fun c => by rw [gNx_f c]; exact ⟨h1, B, hB, h2⟩
  rcases hl with ⟨rfl, hw, hx⟩ | ⟨rfl | rfl, hw⟩ | ⟨rfl, hw, hx⟩ | ⟨rfl, hw, hx⟩
  · refine sX11_doLine 103 _ _ _ is103 ⟨fun _ => ?_, fun c => absurd c (by decide), fun c => absurd c (by decide), fun c => absurd c (by decide), fun c => by omega⟩
    refine (c_grow (d := d + 2) is103 h1 w x).use (fun z V1 hz => ?_)
    rcases hz with ⟨c1, rfl, k1, k2⟩ | ⟨c1, rfl, rfl⟩
    · obtain ⟨i, rfl⟩ : ∃ i : Nat, w = i := ⟨w.toNat, by omega⟩
      have hcan : canD 0 (i : Int) x g := Or.inl ⟨rfl, c1.2.2⟩
      have c20 : g i < 20 := by have := c1.2.2; rw [tn] at this; exact this
      obtain ⟨m, a1, a2, a3, a4, -⟩ := h1.2.2 i (by omega)
      rw [tn] at k1 k2 ⊢
      have el : Lapp i x g (gNx 0 (i : Int) x g) := by rw [gNx_t hcan]; show Lapp i x g (gApp (i : Int).toNat x g); rw [tn]; exact gApp_L (by omega)
      refine ⟨fun c => by omega, fun _ => ⟨_, rfl, fun c q1 q2 => k1 c (by omega) (by omega), Or.inl ⟨rfl, hcan⟩, k2 _ el, B, hB, ?_⟩⟩
      refine h2.congr (by rw [k1 103 (by omega) (by omega)]) (fun k hk => ⟨by rw [k1 _ (by omega) (by omega)], k1 _ (by omega) (by omega)⟩) (fun j q1 q2 => el.2.2 j (by omega) (by omega) ?_)
      rw [a2]; omega
    · have hcan : ¬ canD 0 w x g := by
        rintro (⟨-, q⟩ | ⟨q, -⟩ | q | ⟨q, -⟩ | ⟨q, -⟩)
        · exact c1 ⟨hw, hx, q⟩
        all_goals exact absurd q (by decide)
      exact ⟨fun _ => ⟨_, rfl, fun _ _ _ => rfl, Or.inr ⟨rfl, hcan⟩, same hcan⟩, fun c => absurd rfl c⟩
  · refine sX11_doLine 103 _ _ _ is103 ⟨fun c => absurd c (by decide), fun _ => ?_, fun c => absurd c (by decide), fun c => absurd c (by decide), fun c => by omega⟩
    refine (c_shrink (d := d + 2) is103 h1 w).use (fun z V1 hz => ?_)
    rcases hz with ⟨c1, -, cz, k1, k2⟩ | ⟨c1, rfl, rfl⟩
    · obtain ⟨i, rfl⟩ : ∃ i : Nat, w = i := ⟨w.toNat, by omega⟩
      have hcan : canD 1 (i : Int) x g := Or.inr (Or.inl ⟨rfl, c1.2⟩)
      obtain ⟨m, a1, a2, a3, a4, -⟩ := h1.2.2 i (by omega)
      rw [tn] at k1 k2
      have el : Lcut i g (gNx 1 (i : Int) x g) := by rw [gNx_t hcan]; show Lcut i g (gCut (i : Int).toNat g); rw [tn]; exact gCut_L
      refine ⟨fun c => by omega, fun _ => ⟨_, rfl, fun c q1 q2 => k1 c (by omega), Or.inl ⟨rfl, hcan⟩, k2 _ el, B, hB, ?_⟩⟩
      refine h2.congr (by rw [k1 103 (by omega)]) (fun k hk => ⟨by rw [k1 _ (by omega)], k1 _ (by omega)⟩) (fun j q1 q2 => el.2 j (by omega) (by omega) ?_)
      rw [el.1, a2]; omega
    · have hcan : ¬ canD 1 w x g := by
        rintro (⟨q, -⟩ | ⟨-, q⟩ | q | ⟨q, -⟩ | ⟨q, -⟩)
        · exact absurd q (by decide)
        · exact c1 ⟨hw, q⟩
        all_goals exact absurd q (by decide)
      exact ⟨fun _ => ⟨_, rfl, fun _ _ _ => rfl, Or.inr ⟨rfl, hcan⟩, same hcan⟩, fun c => absurd rfl c⟩
  · refine sX11_doLine 103 _ _ _ is103 ⟨fun c => absurd c (by decide), fun c => absurd c (by decide), fun _ => ?_, fun c => absurd c (by decide), fun c => by omega⟩
    refine (c_reverse (d := d + 2) is103 h1 w).use (fun z V1 hz => ?_)
    rcases hz with ⟨c1, rfl, k1, k2⟩ | ⟨c1, rfl, rfl⟩
    · obtain ⟨i, rfl⟩ : ∃ i : Nat, w = i := ⟨w.toNat, by omega⟩
      have hcan : canD 2 (i : Int) x g := Or.inr (Or.inr (Or.inl rfl))
      obtain ⟨m, a1, a2, a3, a4, -⟩ := h1.2.2 i (by omega)
      rw [tn] at k1 k2
      have el : Ltrn i g (gNx 2 (i : Int) x g) := by rw [gNx_t hcan]; show Ltrn i g (gTrn (i : Int).toNat g); rw [tn]; exact gTrn_L (by omega)
      refine ⟨Or.inr rfl, _, rfl, fun c q1 q2 => k1 c (by omega), Or.inl ⟨rfl, hcan⟩, k2 _ el, B, hB, ?_⟩
      refine h2.congr (by rw [k1 103 (by omega)]) (fun k hk => ⟨by rw [k1 _ (by omega)], k1 _ (by omega)⟩) (fun j q1 q2 => el.2.2 j (by omega) ?_)
      rw [a2]; omega
    · exact absurd hw c1
  · refine sX11_doLine 103 _ _ _ is103 ⟨fun c => absurd c (by decide), fun c => absurd c (by decide), fun c => absurd c (by decide), fun _ => ?_, fun c => by omega⟩
    refine (c_crossOver (d := d) is103 h2 w x).use (fun z V1 hz => ?_)
    rcases hz with ⟨c1, rfl, k1, k2⟩ | ⟨c1, rfl, rfl⟩
    · obtain ⟨i, rfl⟩ : ∃ i : Nat, w = i := ⟨w.toNat, by omega⟩
      have hcan : canD 3 (i : Int) x g := Or.inr (Or.inr (Or.inr (Or.inl ⟨rfl, c1.2.2⟩)))
      obtain ⟨n, a1, a2, a3, a4, -⟩ := h2.2.2.2 i (by omega)
      rw [tn] at k1 k2
      have el : Lcrs i x g (gNx 3 (i : Int) x g) := by rw [gNx_t hcan]; show Lcrs i x g (gCrs (i : Int).toNat x g); rw [tn]; exact gCrs_L
      refine ⟨Or.inr rfl, _, rfl, fun c q1 q2 => k1 c (by omega), Or.inl ⟨rfl, hcan⟩, ?_, B, hB, k2 _ el⟩
      exact h1.congr (by rw [k1 103 (by omega)]) (fun r hr => ⟨k1 _ (by omega), k1 _ (by omega)⟩) (fun j q => el.2 j (by omega) (by omega))
    · have hcan : ¬ canD 3 w x g := by
        rintro (⟨q, -⟩ | ⟨q, -⟩ | q | ⟨-, q⟩ | ⟨q, -⟩)
        · exact absurd q (by decide)
        · exact absurd q (by decide)
        · exact absurd q (by decide)
        · exact c1 ⟨⟨hw.1, by omega⟩, hx.1, q⟩
        · exact absurd q (by decide)
      exact ⟨Or.inl rfl, _, rfl, fun _ _ _ => rfl, Or.inr ⟨rfl, hcan⟩, same hcan⟩
  · refine sX11_doLine 103 _ _ _ is103 ⟨fun c => absurd c (by decide), fun c => absurd c (by decide), fun c => absurd c (by decide), fun c => absurd c (by decide), fun _ => ?_⟩
    refine (c_combine (d := d) is103 (by omega) h2 w x).use (fun z V1 hz => ?_)
    rcases hz with ⟨c1, rfl, k1, k2, k3, k4⟩ | ⟨c1, rfl, rfl⟩
    · obtain ⟨⟨cx, cy⟩, ce, c8⟩ := id c1
      obtain ⟨i, rfl⟩ : ∃ i : Nat, w = i := ⟨w.toNat, by omega⟩
      obtain ⟨j, rfl⟩ : ∃ j : Nat, x = j := ⟨x.toNat, by omega⟩
      have hcan : canD 4 (i : Int) (j : Int) g := Or.inr (Or.inr (Or.inr (Or.inr ⟨rfl, by omega, ce⟩)))
      obtain ⟨n, a1, a2, a3, a4, -⟩ := h2.2.2.2 i (by omega)
      rw [tn, tn] at k4
      have el : Lkep i j g (gNx 4 (i : Int) (j : Int) g) := by rw [gNx_t hcan]; show Lkep i j g (gKep (i : Int).toNat (j : Int).toNat g); rw [tn, tn]; exact gKep_L (by omega) (by rw [a2]; omega)
      have el4 := el.2.2.2
      rw [h84, tn] at el4
      refine ⟨fun c => by omega, fun _ => ⟨_, rfl, fun c q1 q2 => k1 c (by omega) (by omega) (by omega) q2, Or.inl ⟨rfl, hcan⟩, ?_, B + 1, by omega, k4 _ el⟩⟩
      exact h1.congr (k2 5 (by omega)) (fun r hr => ⟨k1 _ (by omega) (by omega) (by omega) (by omega), k1 _ (by omega) (by omega) (by omega) (by omega)⟩) (fun q hq => el4 q (by omega) (by omega) (by omega) (by omega) (by omega))
    · have hcan : ¬ canD 4 w x g := by
        rintro (⟨q, -⟩ | ⟨q, -⟩ | q | ⟨q, -⟩ | ⟨-, q1, q2⟩)
        · exact absurd q (by decide)
        · exact absurd q (by decide)
        · exact absurd q (by decide)
        · exact absurd q (by decide)
        · exact c1 ⟨⟨⟨hw.1, by omega⟩, hx.1, by omega⟩, q2, by omega⟩
      exact ⟨fun _ => ⟨_, rfl, fun _ _ _ => rfl, Or.inr ⟨rfl, hcan⟩, same hcan⟩, fun c => absurd rfl c⟩
/-- the reference's line: may it, and if so it is done -/
theorem m_mayL (e : EqM R g (bk V 4326)) (b : bOK R g) (hB : (BT : Int) ≤ g 84) (hl : lnOK R BT v w x) : Mi K (d + 1) mX12_mayDo [vR 369, vI 4326, vI v, vI w, vI x] V (fun z V' => V' = V ∧ ((z = 1 ∧ canD v w x g) ∨ (z = 0 ∧ ¬ canD v w x g))) := by
  obtain ⟨b1, b2, b3, b4⟩ := b
  obtain ⟨e1, e2, e3⟩ := e
  rcases hl with ⟨hv, hw, hx⟩ | ⟨hv | hv, hw⟩ | ⟨hv, hw, hx⟩ | ⟨hv, hw, hx⟩
  · obtain ⟨i, rfl⟩ : ∃ i : Nat, w = i := ⟨w.toNat, by omega⟩
    refine Mi.use (m_may0 (d := d) (V := V) (b := 4326) (y := v) (x := x) (w := i) hv (by omega) (by omega)) (fun z V' ⟨z1, z2⟩ => ⟨z2, ?_⟩)
    rw [(e1 i (by omega)).1] at z1
    by_cases c : g i < 20
    · rw [if_pos c] at z1
      exact Or.inl ⟨z1, Or.inl ⟨hv, by rw [tn]; exact c⟩⟩
    · rw [if_neg c] at z1
      refine Or.inr ⟨z1, ?_⟩
      rintro (⟨-, q⟩ | ⟨q, -⟩ | q | ⟨q, -⟩ | ⟨q, -⟩)
      · rw [tn] at q; exact c q
      all_goals omega
  · obtain ⟨i, rfl⟩ : ∃ i : Nat, w = i := ⟨w.toNat, by omega⟩
    refine Mi.use (m_may1 (d := d) (V := V) (b := 4326) (y := v) (x := x) (w := i) hv (by omega) (by omega)) (fun z V' ⟨z1, z2⟩ => ⟨z2, ?_⟩)
    rw [(e1 i (by omega)).1] at z1
    by_cases c : 1 < g i
    · rw [if_pos c] at z1
      exact Or.inl ⟨z1, Or.inr (Or.inl ⟨hv, by rw [tn]; exact c⟩)⟩
    · rw [if_neg c] at z1
      refine Or.inr ⟨z1, ?_⟩
      rintro (⟨q, -⟩ | ⟨-, q⟩ | q | ⟨q, -⟩ | ⟨q, -⟩)
      · omega
      · rw [tn] at q; exact c q
      all_goals omega
  · refine Mi.use (m_may2 (d := d) (V := V) (b := 4326) (y := v) (x := x) (w := w) hv) (fun z V' ⟨z1, z2⟩ => ⟨z2, Or.inl ⟨z1, Or.inr (Or.inr (Or.inl hv))⟩⟩)
  · obtain ⟨i, rfl⟩ : ∃ i : Nat, w = i := ⟨w.toNat, by omega⟩
    have hi : i < (g 84).toNat := by omega
    obtain ⟨f1, f2⟩ := e3 i hi
    obtain ⟨n1, n2, n3⟩ := b4 i hi
    refine Mi.use (m_may3 (d := d) (V := V) (b := 4326) (k := i) (n := (g (85 + i)).toNat) hv (by omega) (by omega) (by rw [f1]; omega) (by omega) (by omega) (n3.congr f2) hx.1) (fun z V' ⟨z1, z2⟩ => ⟨z1, ?_⟩)
    rw [crC.congr f2] at z2
    rcases z2 with ⟨q1, q2⟩ | ⟨q1, q2⟩
    · exact Or.inl ⟨q2, Or.inr (Or.inr (Or.inr (Or.inl ⟨hv, by rw [tn]; exact q1⟩)))⟩
    · refine Or.inr ⟨q2, ?_⟩
      rintro (⟨q, -⟩ | ⟨q, -⟩ | q | ⟨-, q⟩ | ⟨q, -⟩)
      · omega
      · omega
      · omega
      · rw [tn] at q; exact q1 q
      · omega
  · obtain ⟨i, rfl⟩ : ∃ i : Nat, w = i := ⟨w.toNat, by omega⟩
    obtain ⟨j, rfl⟩ : ∃ j : Nat, x = j := ⟨x.toNat, by omega⟩
    have hi : i < (g 84).toNat := by omega
    have hj : j < (g 84).toNat := by omega
    refine Mi.use (m_may4 (d := d) (V := V) (b := 4326) (y := v) (x := i) (z := j) hv (by omega) (by omega) (by omega)) (fun z V' ⟨z1, z2⟩ => ⟨z2, ?_⟩)
    rw [e2, (e3 i hi).1, (e3 j hj).1] at z1
    by_cases c : g 84 < 8 ∧ g (85 + i) = g (85 + j)
    · rw [if_pos c] at z1
      exact Or.inl ⟨z1, Or.inr (Or.inr (Or.inr (Or.inr ⟨hv, c.1, by rw [tn, tn]; exact c.2⟩)))⟩
    · rw [if_neg c] at z1
      refine Or.inr ⟨z1, ?_⟩
      rintro (⟨q, -⟩ | ⟨q, -⟩ | q | ⟨q, -⟩ | ⟨-, q1, q2⟩)
      · omega
      · omega
      · omega
      · omega
      · rw [tn, tn] at q2; exact c ⟨q1, q2⟩
theorem m_doL (e : EqM R g (bk V 4326)) (b : bOK R g) (hB : (BT : Int) ≤ g 84) (hl : lnOK R BT v w x) (hcan : canD v w x g) : Mv K (d + 3) mX12_does [vR 369, vI 4326, vI v, vI w, vI x] V (fun V' => FrD V V' 4326 ∧ EqM R (gNx v w x g) (bk V' 4326)) := by
  obtain ⟨b1, b2, b3, b4⟩ := id b
  obtain ⟨e1, e2, e3⟩ := id e
  rw [gNx_t hcan]
  rcases hl with ⟨rfl, hw, hx⟩ | ⟨rfl | rfl, hw⟩ | ⟨rfl, hw, hx⟩ | ⟨rfl, hw, hx⟩
  · obtain ⟨i, rfl⟩ : ∃ i : Nat, w = i := ⟨w.toNat, by omega⟩
    have c : g i < 20 := by
      rcases hcan with ⟨-, q⟩ | ⟨q, -⟩ | q | ⟨q, -⟩ | ⟨q, -⟩
      · rw [tn] at q; exact q
      all_goals exact absurd q (by decide)
    have bi := b2 i (by omega)
    refine Mv.use (m_do0 (d := d + 2) (V := V) (b := 4326) (w := i) (m := (g i).toNat) rfl (by omega) (by omega) (by rw [(e1 i (by omega)).1]; omega) (by omega)) (fun V' ⟨q1, q2⟩ => ⟨q1, ?_⟩)
    show EqM R (gApp (i : Int).toNat x g) _
    rw [tn]
    exact e.app b (by omega) c (gApp_L (by omega)) q2
  · obtain ⟨i, rfl⟩ : ∃ i : Nat, w = i := ⟨w.toNat, by omega⟩
    have c : 1 < g i := by
      rcases hcan with ⟨q, -⟩ | ⟨-, q⟩ | q | ⟨q, -⟩ | ⟨q, -⟩
      · exact absurd q (by decide)
      · rw [tn] at q; exact q
      all_goals exact absurd q (by decide)
    have bi := b2 i (by omega)
    refine Mv.use (m_do1 (d := d + 2) (V := V) (b := 4326) (w := i) (m := (g i).toNat) rfl (by omega) (by omega) (by rw [(e1 i (by omega)).1]; omega) (by omega) (by omega)) (fun V' ⟨q1, q2, q3⟩ => ⟨q1, ?_⟩)
    show EqM R (gCut (i : Int).toNat g) _
    rw [tn]
    exact e.cut b (by omega) c gCut_L q2
  · obtain ⟨i, rfl⟩ : ∃ i : Nat, w = i := ⟨w.toNat, by omega⟩
    have bi := b2 i (by omega)
    refine Mv.use (m_do2 (d := d + 2) (V := V) (b := 4326) (w := i) (m := (g i).toNat) rfl (by omega) (by omega) (by rw [(e1 i (by omega)).1]; omega) (by omega)) (fun V' ⟨q1, q2⟩ => ⟨q1, ?_⟩)
    show EqM R (gTrn (i : Int).toNat g) _
    rw [tn]
    exact e.trn b (by omega) (gTrn_L (by omega)) q2
  · obtain ⟨i, rfl⟩ : ∃ i : Nat, w = i := ⟨w.toNat, by omega⟩
    obtain ⟨j, rfl⟩ : ∃ j : Nat, x = j := ⟨x.toNat, by omega⟩
    have hi : i < (g 84).toNat := by omega
    obtain ⟨f1, f2⟩ := e3 i hi
    obtain ⟨n1, n2, n3⟩ := b4 i hi
    have c : crC (fun s => g (101 + 10 * i + s)) (g (85 + i)).toNat (j : Int) := by
      rcases hcan with ⟨q, -⟩ | ⟨q, -⟩ | q | ⟨-, q⟩ | ⟨q, -⟩
      · exact absurd q (by decide)
      · exact absurd q (by decide)
      · exact absurd q (by decide)
      · rw [tn] at q; exact q
      · exact absurd q (by decide)
    have c1 := c.1
    refine Mv.use (m_do3 (d := d + 2) (V := V) (b := 4326) (k := i) (n := (g (85 + i)).toNat) (x := j) rfl (by omega) (by omega) (by rw [f1]; omega) (by omega) (n3.congr f2) (by omega)) (fun V' ⟨q1, q2⟩ => ⟨q1, ?_⟩)
    show EqM R (gCrs (i : Int).toNat (j : Int) g) _
    rw [tn]
    exact e.crs b hi gCrs_L q2
  · obtain ⟨i, rfl⟩ : ∃ i : Nat, w = i := ⟨w.toNat, by omega⟩
    obtain ⟨j, rfl⟩ : ∃ j : Nat, x = j := ⟨x.toNat, by omega⟩
    have hi : i < (g 84).toNat := by omega
    have hj : j < (g 84).toNat := by omega
    obtain ⟨f1, f2⟩ := e3 i hi
    obtain ⟨n1, n2, n3⟩ := b4 i hi
    obtain ⟨f3, f4⟩ := e3 j hj
    obtain ⟨n4, n5, n6⟩ := b4 j hj
    have c : g 84 < 8 ∧ g (85 + i) = g (85 + j) := by
      rcases hcan with ⟨q, -⟩ | ⟨q, -⟩ | q | ⟨q, -⟩ | ⟨-, q1, q2⟩
      · exact absurd q (by decide)
      · exact absurd q (by decide)
      · exact absurd q (by decide)
      · exact absurd q (by decide)
      · rw [tn, tn] at q2; exact ⟨q1, q2⟩
    rw [← c.2] at n6 f4
    refine Mv.use (m_do4 (d := d) (V := V) (b := 4326) (x := i) (z := j) (n := (g (85 + i)).toNat) (B := (g 84).toNat) rfl (by omega) (by omega) (by omega) (by rw [e2]; omega) (by omega) (by rw [f1]; omega) (by rw [f3]; omega) (by omega) (n3.congr f2) (n6.congr f4)) (fun V' ⟨q1, q2, q3⟩ => ⟨q1, ?_⟩)
    show EqM R (gKep (i : Int).toNat (j : Int).toNat g) _
    rw [tn, tn]
    exact e.kep b c.1 hi hj c.2 (gKep_L (by omega) (by omega)) q2
end JUD
