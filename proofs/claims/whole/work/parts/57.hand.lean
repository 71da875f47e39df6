/-! ===== changes by hand: append, cut, turn, cross: both sides, and what holds behind them ===== -/
def FrH (V V' : Mem) : Prop := ∀ c, ¬ XSc c → ¬ (43 ≤ c ∧ c ≤ 72) → ¬ (142 ≤ c ∧ c ≤ 145) → c ≠ 0 → V' c = V c
def DnC (V V' : Mem) (N sh : Nat) : Prop := V' 369 18 = ((N + 1 : Nat) : Int) ∧ V' 369 2 = V 369 2 ∧ (∀ c, ¬ MSc c → c ≠ 369 → c ≠ 381 → V' c = V c) ∧ (∀ j, (181 ≤ j ∧ j < 1030) ∨ 4326 ≤ j → V' 381 j = V 381 j) ∧ (∀ k i, k < N → i < 181 → V' 381 (206 * (5 + k) + i) = V 381 (206 * (5 + (k + sh)) + i)) ∧ ∀ i, i < 181 → V' 381 (206 * (5 + N) + i) = V 381 i
/-- how many deeds stay, behind how many that are forgotten -/
abbrev nN (U : Nat) : Nat := if U = 16 then U - 1 else U
abbrev nS (U : Nat) : Nat := if U = 16 then 1 else 0
/-- a call of the class and one of the reference: they answer alike, and the coupling stays -/
def Bth (K : KK) (d : Nat) (yx : MI) (ax : List AV) (ym : MI) (am : List AV) (V : Mem) : Prop := Mi K d yx ax V (fun z V1 => Mi K d ym am V1 (fun z2 V2 => z2 = z ∧ Inv V2))
theorem inv_deed {V V3 V6 : Mem} {P : Nat → Int × Int} {n R S BT B' U : Nat} {x y z : Int} (hT : TapeC V) (hK : KwC V) (hTo : ToldC V R BT) (hLw : LawC V P n) (hM : MkC V R) (hH : HsC V R) (hLn : LnC V R BT) (hx : FrH V V3) (hU : V 142 3 = U) (hd : DdAd V V3 142 (nN U) (nS U) x y z) (hm : DnC V3 V6 (nN U) (nS U)) (hl : Lnk x y z R (V6 381) (V 381)) (hlive : Live V6 R B' S) (hmade : V6 0 17 = V6 369 19) : Inv V6 := by
  obtain ⟨m1, m2, m3, m4, m5, m6⟩ := hm
  have e : ∀ c, ¬ XSc c → ¬ MSc c → ¬ (43 ≤ c ∧ c ≤ 72) → ¬ (142 ≤ c ∧ c ≤ 145) → c ≠ 0 → c ≠ 369 → c ≠ 381 → V6 c = V c := fun c q1 q2 q3 q4 q5 q6 q7 => by rw [m3 c q2 q6 q7, hx c q1 q3 q4 q5]
  have e3 : V3 381 = V 381 := hx 381 (by omega) (by omega) (by omega) (by omega)
  have e9 : V3 369 = V 369 := hx 369 (by omega) (by omega) (by omega) (by omega)
  have hR := hTo.1.2.2.1
  have hdd : DdAd V V6 142 (nN U) (nS U) x y z := by
    unfold DdAd at hd ⊢
    rw [m3 142 (by omega) (by omega) (by omega), m3 (142 + 1) (by omega) (by omega) (by omega), m3 (142 + 2) (by omega) (by omega) (by omega), m3 (142 + 3) (by omega) (by omega) (by omega)]
    exact hd
  refine ⟨P, n, R, B', S, BT, hT.congr ?_ (e 2 (by omega) (by omega) (by omega) (by omega) (by omega) (by omega) (by omega)) (e 370 (by omega) (by omega) (by omega) (by omega) (by omega) (by omega) (by omega)) (by rw [m2, e9]), hK.congr (e 3 (by omega) (by omega) (by omega) (by omega) (by omega) (by omega) (by omega)) (e 374 (by omega) (by omega) (by omega) (by omega) (by omega) (by omega) (by omega)), hTo.congr (fun c q1 q2 => e c (by omega) (by omega) (by omega) (by omega) (by omega) (by omega) (by omega)) (e 375 (by omega) (by omega) (by omega) (by omega) (by omega) (by omega) (by omega)) (e 377 (by omega) (by omega) (by omega) (by omega) (by omega) (by omega) (by omega)), hLw.congr (e 135 (by omega) (by omega) (by omega) (by omega) (by omega) (by omega) (by omega)) (e 136 (by omega) (by omega) (by omega) (by omega) (by omega) (by omega) (by omega)) (by rw [e 375 (by omega) (by omega) (by omega) (by omega) (by omega) (by omega) (by omega)]) (fun j _ => by rw [e 376 (by omega) (by omega) (by omega) (by omega) (by omega) (by omega) (by omega)]), hlive, hM.congr (e 134 (by omega) (by omega) (by omega) (by omega) (by omega) (by omega) (by omega)) (e 382 (by omega) (by omega) (by omega) (by omega) (by omega) (by omega) (by omega)) (e 375 (by omega) (by omega) (by omega) (by omega) (by omega) (by omega) (by omega)) (fun c q1 q2 => e c (by omega) (by omega) (by omega) (by omega) (by omega) (by omega) (by omega)) (fun j q1 q2 => by rw [m4 j (by omega), e3]), hH.push hR hU hdd m1 (fun k i q1 q2 => by rw [m5 k i q1 q2, e3]) (fun i q => by rw [m6 i q, e3]) (fun r hr => ?_) hl, hLn.congr (fun c q1 q2 => e c (by omega) (by omega) (by omega) (by omega) (by omega) (by omega) (by omega)) (e 378 (by omega) (by omega) (by omega) (by omega) (by omega) (by omega) (by omega)), hmade⟩
  · rw [e 1 (by omega) (by omega) (by omega) (by omega) (by omega) (by omega) (by omega)]
  · obtain ⟨m, a1, a2, a3, a4, -⟩ := hlive.1.2.2 r hr
    omega
section HND
variable {K : KK} {d : Nat} {V : Mem}
/-- the reference does what it may -/
theorem m_done {V1 : Mem} {U : Nat} {w x y : Int} {L : (Nat → Int) → (Nat → Int) → Prop} {T : Int → Mem → Prop} (hU : V1 369 18 = U) (hU2 : U ≤ 16) (hmay : Mi K d mX12_mayDo [vR 369, vI 0, vI y, vI w, vI x] V1 (fun z V2 => z = 1 ∧ V2 = V1)) (hk : ∃ d', d = d' + 1) (hdo : ∀ V5, (∀ i, i < 206 → V5 381 i = V1 381 i) → Mv K d mX12_does [vR 369, vI 0, vI y, vI w, vI x] V5 (fun V6 => FrD V5 V6 0 ∧ L (V1 381) (V6 381))) (ht : ∀ V6, DnC V1 V6 (nN U) (nS U) → V6 369 19 = V1 369 19 → L (V1 381) (V6 381) → T 1 V6) : Mi K (d + 1) mX12_isDone [vR 369, vI y, vI w, vI x] V1 T := by
  obtain ⟨d', rfl⟩ := hk
  refine sX12_isDone _ _ _ (Mi.use hmay (fun z V2 ⟨e1, e2⟩ => ?_))
  subst e1
  subst e2
  refine ⟨fun _ => Mv.use (m_keeps (d := d') hU hU2) (fun V5 ⟨k1, k2, k3, k4, k5, k6⟩ => ?_), fun c => absurd c (by decide)⟩
  refine Mv.use (hdo V5 (fun i hi => k4 i (by omega))) (fun V6 ⟨⟨f1, f2⟩, f3⟩ => ⟨_, rfl, ht V6 ⟨?_, ?_, fun c q1 q2 q3 => ?_, fun j q => ?_, fun k i q1 q2 => ?_, fun i q => ?_⟩ (by rw [f1 369 (by omega) (by omega)]; exact k2 19 (by omega)) f3⟩)
  · rw [f1 369 (by omega) (by omega)]; exact k1
  · rw [f1 369 (by omega) (by omega)]; exact k2 2 (by omega)
  · rw [f1 c q1 q3]; exact k3 c q2 q3
  · rw [f2 j (by omega)]; exact k4 j (by omega)
  · rw [f2 _ (by omega)]; exact k5 k i q1 q2
  · have hN : nN U ≤ 16 := by unfold nN; split <;> omega
    rw [f2 _ (by omega)]; exact k6 i q
theorem dd_of {V V1 V3 : Mem} {N sh : Nat} {x y z : Int} (h : DdAd V1 V3 142 N sh x y z) (h1 : V1 (142 + 1) = V (142 + 1)) (h2 : V1 (142 + 2) = V (142 + 2)) (h3 : V1 (142 + 3) = V (142 + 3)) : DdAd V V3 142 N sh x y z := by
  unfold DdAd at h ⊢
  rw [← h1, ← h2, ← h3]
  exact h
theorem no_deed (hI : Inv V) {V' : Mem} (h : FrM V V') : Inv V' := by
  obtain ⟨P, n, R, B, S, BT, hT, hK, hTo, hLw, hL, hM, hH, hLn, hmd⟩ := hI
  have e : ∀ c, ¬ MSc c → c ≠ 369 → V' c = V c := h.1
  have hR := hTo.1.2.2.1
  exact ⟨P, n, R, B, S, BT, hT.congr (by rw [e 1 (by omega) (by omega)]) (e 2 (by omega) (by omega)) (e 370 (by omega) (by omega)) (h.2 2 (by omega) (by omega) (by omega) (by omega)), hK.congr (e 3 (by omega) (by omega)) (e 374 (by omega) (by omega)), hTo.congr (fun c q1 q2 => e c (by omega) (by omega)) (e 375 (by omega) (by omega)) (e 377 (by omega) (by omega)), hLw.congr (e 135 (by omega) (by omega)) (e 136 (by omega) (by omega)) (by rw [e 375 (by omega) (by omega)]) (fun j _ => by rw [e 376 (by omega) (by omega)]), hL.congr (fun c q1 q2 => e c (by omega) (by omega)) (e 375 (by omega) (by omega)) (fun i _ => by rw [e 381 (by omega) (by omega)]), hM.congr (e 134 (by omega) (by omega)) (e 382 (by omega) (by omega)) (e 375 (by omega) (by omega)) (fun c q1 q2 => e c (by omega) (by omega)) (fun j _ _ => by rw [e 381 (by omega) (by omega)]), hH.congr hR (fun c q1 q2 => e c (by omega) (by omega)) (h.2 18 (by omega) (by omega) (by omega) (by omega)) (fun j _ => by rw [e 381 (by omega) (by omega)]), hLn.congr (fun c q1 q2 => e c (by omega) (by omega)) (e 378 (by omega) (by omega)), by rw [e 0 (by omega) (by omega), h.2 19 (by omega) (by omega) (by omega) (by omega)]; exact hmd⟩
theorem frx_inv (hI : Inv V) {V' : Mem} (h : FrX V V') : Inv V' := by
  obtain ⟨P, n, R, B, S, BT, hT, hK, hTo, hLw, hL, hM, hH, hLn, hmd⟩ := hI
  have e : ∀ c, ¬ XSc c → V' c = V c := h
  have hR := hTo.1.2.2.1
  exact ⟨P, n, R, B, S, BT, hT.congr (by rw [e 1 (by omega)]) (e 2 (by omega)) (e 370 (by omega)) (by rw [e 369 (by omega)]), hK.congr (e 3 (by omega)) (e 374 (by omega)), hTo.congr (fun c q1 q2 => e c (by omega)) (e 375 (by omega)) (e 377 (by omega)), hLw.congr (e 135 (by omega)) (e 136 (by omega)) (by rw [e 375 (by omega)]) (fun j _ => by rw [e 376 (by omega)]), hL.congr (fun c q1 q2 => e c (by omega)) (e 375 (by omega)) (fun i _ => by rw [e 381 (by omega)]), hM.congr (e 134 (by omega)) (e 382 (by omega)) (e 375 (by omega)) (fun c q1 q2 => e c (by omega)) (fun j _ _ => by rw [e 381 (by omega)]), hH.congr hR (fun c q1 q2 => e c (by omega)) (by rw [e 369 (by omega)]) (fun j _ => by rw [e 381 (by omega)]), hLn.congr (fun c q1 q2 => e c (by omega)) (e 378 (by omega)), by rw [e 0 (by omega), e 369 (by omega)]; exact hmd⟩
theorem inv_th (hI : Inv V) : Inv (upm V 369 0 0) := no_deed hI (FrM.th 0)
/-- rows alone have changed -/
theorem live_rw {V V6 : Mem} {R B S : Nat} (h : Live V R B S) (h1 : CpRw V6 43 (V6 381) (kdV V) R) (hk : V6 375 = V 375) (hc : ∀ c, c = 43 ∨ (46 ≤ c ∧ c ≤ 48) ∨ (57 ≤ c ∧ c ≤ 72) → V6 c = V c) (hg : ∀ i, 84 ≤ i → i < 206 → V6 381 i = V 381 i) : Live V6 R B S := by
  obtain ⟨a1, a2, a3, a4⟩ := h
  have hB := a2.2.2.1
  have e : kdV V6 = kdV V := by funext r; show V6 375 _ = V 375 _; rw [hk]
  unfold Live
  rw [e]
  exact ⟨h1, a2.congr (by rw [hc 43 (by omega)]) (fun k hk => ⟨by rw [hc _ (by omega)], hc _ (by omega)⟩) (fun i q1 q2 => hg i q1 (by omega)), a3.congr hB (fun k hk => by rw [hc _ (by omega)]) (fun i q1 q2 => hg i (by omega) (by omega)), a4.congr (by rw [hc 43 (by omega)]) (hc _ (by omega)) (hc _ (by omega)) (hc _ (by omega)) (fun i q1 q2 => hg i (by omega) q2)⟩
theorem st_append (hI : Inv V) (r x : Int) : Bth K (d + 3) mX11_append [vR 0, vI r, vI x] mX12_append [vR 369, vI r, vI x] V := by
  obtain ⟨P, n, R, B, S, BT, hT, hK, hTo, hLw, hL, hM, hH, hLn, hmd⟩ := id hI
  obtain ⟨U, u1, u2, u3, u4, u5⟩ := id hH
  have hr0 := hTo.1.2.1
  have hR := hTo.1.2.2.1
  refine sX11_append r x ((c_grow (d := d + 1) is43 hL.1 r x).use (fun z V1 hz => ?_))
  rcases hz with ⟨c1, rfl, k1, k2⟩ | ⟨c1, rfl, rfl⟩
  · obtain ⟨i, rfl⟩ : ∃ i : Nat, r = i := ⟨r.toNat, by omega⟩
    have hi : i < R := by omega
    obtain ⟨m, a1, a2, a3, a4, a5, a6⟩ := hL.1.2.2 i hi
    rw [tn] at k1 k2 ⊢
    have c3 : V 381 i < 20 := by have := c1.2.2; rw [tn] at this; exact this
    refine ⟨fun c => by omega, fun _ => ?_⟩
    refine (c_add (d := d + 1) (V := V1) (U := U) is142 (by decide) (by rw [k1 142 (by omega) (by omega)]; exact u2) u1 _ _ _).use (fun V3 ⟨j1, j2⟩ => ⟨_, rfl, ?_⟩)
    have e3 : ∀ c, c ≠ 43 + 6 + 2 * i → c ≠ 43 + 7 + 2 * i → (c < 142 ∨ 146 ≤ c) → V3 c = V c := fun c q1 q2 q3 => by rw [j1 c (by omega), k1 c q1 q2]
    have f3 : FrM V3 (upm V3 369 0 0) := FrM.th 0
    have e375 : V3 375 = V 375 := e3 375 (by omega) (by omega) (by omega)
    have e381 : V3 381 = V 381 := e3 381 (by omega) (by omega) (by omega)
    refine sX12_append _ _ ((m_isRow (d := d + 1) _).use ?_)
    rw [f3.c375, e375, hr0, if_pos ⟨by omega, by omega⟩]
    refine ⟨fun c => absurd c (by decide), fun _ => (m_within (d := d + 2) _ _ _).use ?_⟩
    rw [if_pos ⟨by omega, by omega⟩]
    refine ⟨fun c => absurd c (by decide), fun _ => ?_⟩
    have hb : bk (upm V3 369 0 0) 0 i = m := by rw [bk0, f3.c381, e381]; exact a2
    refine m_done (d := d + 1) (U := U) (L := fun g g' => Lapp i x g g') (by rw [upm_k (by decide), e3 369 (by omega) (by omega) (by omega)]; exact u3) u1 ((m_may0 (d := d) (b := 0) rfl (by omega) (by omega)).use ⟨by rw [hb, if_pos (by omega)], rfl⟩) ⟨d, rfl⟩ (fun V5 hV5 => ?_) (fun V6 h6 h19 hl => ⟨fun c => absurd c (by decide), fun _ => ?_⟩)
    · refine Mv.use (m_do0 (d := d) (V := V5) (b := 0) (w := i) (m := m) rfl (by omega) (by omega) (by rw [bk0, hV5 i (by omega), f3.c381, e381]; exact a2) (by omega)) (fun V6 ⟨q1, q2⟩ => ⟨q1, ?_⟩)
      rw [bk0, bk0] at q2
      exact q2.congr (by omega) (by rw [hV5 i (by omega), f3.c381, e381, a2]; omega) (fun j hj => (hV5 j (by omega)).symm) (fun _ _ => rfl)
    · rw [f3.c381, e381] at hl
      rw [ix2 (show i < 4 by omega), tn, hl.1]
      have h6' : DnC V3 V6 (nN U) (nS U) := by
        obtain ⟨b1, b2, b3, b4, b5, b6⟩ := h6
        exact ⟨b1, by rw [b2, upm_k (by decide)], fun c q1 q2 q3 => by rw [b3 c q1 q2 q3, upm_off c q2], fun j q => by rw [b4 j q, f3.c381], fun k i q1 q2 => by rw [b5 k i q1 q2, f3.c381], fun i q => by rw [b6 i q, f3.c381]⟩
      obtain ⟨b1, b2, b3, b4, b5, b6⟩ := id h6'
      have e6 : ∀ c, ¬ MSc c → c ≠ 369 → c ≠ 381 → c < 142 → V6 c = V1 c := fun c q1 q2 q3 q4 => by rw [b3 c q1 q2 q3, j1 c (by omega)]
      have hgg : ∀ j, 84 ≤ j → j < 206 → V6 381 j = V 381 j := fun j q1 q2 => by
        by_cases c : j < 181
        · refine hl.2.2 j c (by omega) ?_
          rw [a2, tn]; omega
        · rw [b4 j (by omega), e381]
      refine ⟨⟨by omega, by omega⟩, _, rfl, rfl, inv_deed (B' := B) (S := S) hT hK hTo hLw hM hH hLn (fun c q1 q2 q3 q4 => e3 c (by omega) (by omega) (by omega)) u2 (dd_of j2 (k1 _ (by omega) (by omega)) (k1 _ (by omega) (by omega)) (k1 _ (by omega) (by omega))) h6' (Or.inl ⟨rfl, i, rfl, hi, by rw [a2]; omega, hl.cut⟩) (live_rw hL ?_ (by rw [b3 375 (by omega) (by omega) (by omega), e375]) (fun c hc => by rw [e6 c (by omega) (by omega) (by omega) (by omega), k1 c (by omega) (by omega)]) hgg) ?_⟩
      · exact (k2 (V6 381) hl).congr (by rw [e6 43 (by omega) (by omega) (by omega) (by omega)]) (fun r hr => ⟨e6 _ (by omega) (by omega) (by omega) (by omega), e6 _ (by omega) (by omega) (by omega) (by omega)⟩) (fun _ _ => rfl)
      · rw [b3 0 (by omega) (by omega) (by omega), h19, upm_k (by decide), e3 0 (by omega) (by omega) (by omega), e3 369 (by omega) (by omega) (by omega)]; exact hmd
  · refine ⟨fun _ => ⟨_, rfl, ?_⟩, fun c => absurd rfl c⟩
    have f0 : FrM V1 (upm V1 369 0 0) := FrM.th 0
    refine sX12_append _ _ ((m_isRow (d := d + 1) _).use ?_)
    rw [f0.c375]
    by_cases q : 0 ≤ r ∧ r < V1 375 0
    · rw [if_pos q]
      refine ⟨fun c => absurd c (by decide), fun _ => (m_within (d := d + 2) _ _ _).use ?_⟩
      by_cases q2 : 0 ≤ x ∧ x ≤ 99
      · rw [if_pos q2]
        refine ⟨fun c => absurd c (by decide), fun _ => ?_⟩
        obtain ⟨i, rfl⟩ : ∃ i : Nat, r = i := ⟨r.toNat, by omega⟩
        refine sX12_isDone _ _ _ ((m_may0 (d := d) (b := 0) rfl (by omega) (by omega)).use ?_)
        rw [bk0, f0.c381, if_neg (fun w => c1 ⟨⟨by omega, by omega⟩, q2, by rw [tn]; exact w⟩)]
        exact ⟨fun c => absurd rfl c, fun _ => ⟨_, rfl, fun _ => ⟨_, rfl, rfl, inv_th hI⟩, fun c => absurd rfl c⟩⟩
      · rw [if_neg q2]
        exact ⟨fun _ => ⟨_, rfl, rfl, inv_th hI⟩, fun c => absurd rfl c⟩
    · rw [if_neg q]
      exact ⟨fun _ => ⟨_, rfl, rfl, inv_th hI⟩, fun c => absurd rfl c⟩
end HND
