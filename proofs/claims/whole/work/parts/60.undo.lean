/-! ===== undo: both sides with the coupling ===== -/
section UND
variable {K : KK} {d : Nat} {V : Mem}
def UnC (V V' : Mem) (u : Nat) : Prop := V' 369 18 = u ∧ (∀ j, j ≠ 0 → j ≠ 18 → V' 369 j = V 369 j) ∧ (∀ c, c ≠ 369 → c ≠ 381 → V' c = V c) ∧ (∀ i, i < 181 → V' 381 i = V 381 (206 * (5 + u) + i)) ∧ ∀ j, 181 ≤ j → V' 381 j = V 381 j
theorem m_undo {u : Nat} (hU : V 369 18 = ((u + 1 : Nat) : Int)) (hu : u < 16) : Mi K (d + 1) mX12_undo [vR 369] V (fun z V' => z = 1 ∧ UnC V V' u) := by
  refine sX12_undo ⟨fun _ => ?_, fun c => ?_⟩
  · rw [upm_s, upm_k (by decide), hU, w32_p (i := u) (by omega), ix206 (show u ≤ 16 by omega)]
    refine Mv.use (m_moves (d := d) (x := 206 * (5 + u)) (y := 0) (m := 181) (by omega) (by omega) (by omega)) (fun V2 ⟨k1, k2, k3⟩ => ⟨_, rfl, rfl, ?_, fun j q1 q2 => ?_, fun c q1 q2 => ?_, fun i hi => ?_, fun j hj => ?_⟩)
    · rw [k1 369 (by decide), upm_s]
    · rw [k1 369 (by decide), upm_k q2, upm_k q1]
    · rw [k1 c q2, upm_off c q1, upm_off c q1]
    · have := k3 i hi
      rw [Nat.zero_add] at this
      rw [this, upm_a (by decide), upm_a (by decide)]
    · rw [k2 j (by omega), upm_a (by decide), upm_a (by decide)]
  · rw [upm_k (by decide), hU] at c
    omega
theorem inv_undo {V V5 V6 : Mem} {P : Nat → Int × Int} {n R S BT B' u : Nat} (hT : TapeC V) (hK : KwC V) (hTo : ToldC V R BT) (hLw : LawC V P n) (hsn : Seen V 43 (V 381) S) (hM : MkC V R) (hH : HsC V R) (hLn : LnC V R BT) (hmd : V 0 17 = V 369 19) (hU : V 142 3 = ((u + 1 : Nat) : Int)) (hf : ∀ c, ¬ (43 ≤ c ∧ c ≤ 45) → ¬ (49 ≤ c ∧ c ≤ 72) → c ≠ 142 → V5 c = V c) (h53 : V5 142 3 = u) (h7 : V5 43 7 = V 43 7) (h1 : CpRw V5 43 (fun i => V 381 (206 * (5 + u) + i)) (kdV V) R) (h2 : CpB0 V5 43 (fun i => V 381 (206 * (5 + u) + i)) B') (h3 : CpMd V5 43 (fun i => V 381 (206 * (5 + u) + i)) B') (hm : UnC V5 V6 u) : Inv V6 := by
  obtain ⟨m1, m2, m3, m4, m5⟩ := hm
  obtain ⟨U, u1, u2, u3, u4, u5⟩ := id hH
  have eU : U = u + 1 := by omega
  subst eU
  have hR := hTo.1.2.2.1
  have e5 : V5 381 = V 381 := hf 381 (by omega) (by omega) (by omega)
  have e9 : V5 369 = V 369 := hf 369 (by omega) (by omega) (by omega)
  have e : ∀ c, ¬ (43 ≤ c ∧ c ≤ 45) → ¬ (49 ≤ c ∧ c ≤ 72) → c ≠ 142 → c ≠ 369 → c ≠ 381 → V6 c = V c := fun c q1 q2 q3 q4 q5 => by rw [m3 c q4 q5, hf c q1 q2 q3]
  have ek : kdV V6 = kdV V := by funext r; show V6 375 _ = V 375 _; rw [e 375 (by omega) (by omega) (by omega) (by omega) (by omega)]
  have hg : ∀ i, i < 181 → V6 381 i = V 381 (206 * (5 + u) + i) := fun i hi => by rw [m4 i hi, e5]
  have hB' := h2.2.2.1
  have hlive : Live V6 R B' S := by
    unfold Live
    rw [ek]
    refine ⟨h1.congr (by rw [m3 43 (by omega) (by omega)]) (fun r hr => ⟨m3 _ (by omega) (by omega), m3 _ (by omega) (by omega)⟩) (fun i hi => hg i (by omega)), h2.congr (by rw [m3 43 (by omega) (by omega)]) (fun k hk => ⟨by rw [m3 _ (by omega) (by omega)], m3 _ (by omega) (by omega)⟩) (fun i _ _ => hg i (by omega)), h3.congr hB' (fun k hk => by rw [m3 _ (by omega) (by omega)]) (fun i _ _ => hg i (by omega)), hsn.congr ?_ (e _ (by omega) (by omega) (by omega) (by omega) (by omega)) (e _ (by omega) (by omega) (by omega) (by omega) (by omega)) (e _ (by omega) (by omega) (by omega) (by omega) (by omega)) (fun i q1 _ => by rw [m5 i q1, e5])⟩
    rw [m3 43 (by omega) (by omega)]; exact h7
  refine ⟨P, n, R, B', S, BT, hT.congr ?_ (e 2 (by omega) (by omega) (by omega) (by omega) (by omega)) (e 370 (by omega) (by omega) (by omega) (by omega) (by omega)) (by rw [m2 2 (by omega) (by omega), e9]), hK.congr (e 3 (by omega) (by omega) (by omega) (by omega) (by omega)) (e 374 (by omega) (by omega) (by omega) (by omega) (by omega)), hTo.congr (fun c q1 q2 => e c (by omega) (by omega) (by omega) (by omega) (by omega)) (e 375 (by omega) (by omega) (by omega) (by omega) (by omega)) (e 377 (by omega) (by omega) (by omega) (by omega) (by omega)), hLw.congr (e 135 (by omega) (by omega) (by omega) (by omega) (by omega)) (e 136 (by omega) (by omega) (by omega) (by omega) (by omega)) (by rw [e 375 (by omega) (by omega) (by omega) (by omega) (by omega)]) (fun j _ => by rw [e 376 (by omega) (by omega) (by omega) (by omega) (by omega)]), hlive, hM.congr (e 134 (by omega) (by omega) (by omega) (by omega) (by omega)) (e 382 (by omega) (by omega) (by omega) (by omega) (by omega)) (e 375 (by omega) (by omega) (by omega) (by omega) (by omega)) (fun c q1 q2 => e c (by omega) (by omega) (by omega) (by omega) (by omega)) (fun j q1 q2 => by rw [m5 j (by omega), e5]), ?_, hLn.congr (fun c q1 q2 => e c (by omega) (by omega) (by omega) (by omega) (by omega)) (e 378 (by omega) (by omega) (by omega) (by omega) (by omega)), ?_⟩
  · rw [e 1 (by omega) (by omega) (by omega) (by omega) (by omega)]
  · have eb : ∀ k i, k ≤ u → i < 181 → hbk V6 u k i = hbk V (u + 1) k i := fun k i q1 q2 => by
      rw [hbk_lt (show k < u + 1 by omega)]
      by_cases c : k < u
      · rw [hbk_lt c, m5 _ (by omega), e5]
      · rw [hbk_ge c, hg i q2, show k = u by omega]
    refine ⟨u, by omega, by rw [m3 142 (by omega) (by omega)]; exact h53, m1, fun k hk r hr => by rw [eb k r hk (by omega)]; exact u4 k (by omega) r hr, fun k hk => ?_⟩
    rw [e 143 (by omega) (by omega) (by omega) (by omega) (by omega), e 144 (by omega) (by omega) (by omega) (by omega) (by omega), e 145 (by omega) (by omega) (by omega) (by omega) (by omega)]
    exact (u5 k (by omega)).congr hR (u4 (k + 1) (by omega)) (fun i hi => eb _ _ (by omega) hi) (fun i hi => eb _ _ (by omega) hi)
  · rw [e 0 (by omega) (by omega) (by omega) (by omega) (by omega), m2 19 (by omega) (by omega), e9]; exact hmd
theorem st_undo (hI : Inv V) : Bth K (d + 3) mX11_undo [vR 0] mX12_undo [vR 369] V := by
  obtain ⟨P, n, R, B, S, BT, hT, hK, hTo, hLw, hL, hM, hH, hLn, hmd⟩ := id hI
  obtain ⟨U, u1, u2, u3, u4, u5⟩ := id hH
  obtain ⟨l1, l2, l3, l4⟩ := id hL
  have hR := hTo.1.2.2.1
  have hB := l2.2.2.1
  have hB0 := l2.2.1
  refine sX11_undo ?_
  rw [u2]
  cases U with
  | zero =>
    refine ⟨fun c => absurd c (by decide), fun _ => ⟨_, rfl, ?_⟩⟩
    refine sX12_undo ⟨fun c => absurd (by rw [upm_k (by decide)]; exact u3) c, fun _ => ⟨_, rfl, rfl, inv_th hI⟩⟩
  | succ u =>
    rw [w32_p (i := u) (by omega)]
    have hlk := u5 u (by omega)
    have g1 : hbk V (u + 1) (u + 1) = V 381 := funext fun i => hbk_ge (by omega) i
    have g2 : hbk V (u + 1) u = fun i => V 381 (206 * (5 + u) + i) := funext fun i => hbk_lt (by omega) i
    rw [g1, g2] at hlk
    obtain ⟨dv, dw, dx⟩ := c_dd (K := K) (d := d + 1) (V := V) (a := 142) (n0 := 16) (U := u + 1) (k := u) is142 u2 (by omega) (by omega)
    have fin : ∀ V5 : Mem, (∀ B' : Nat, (∀ c, ¬ (43 ≤ c ∧ c ≤ 45) → ¬ (49 ≤ c ∧ c ≤ 72) → V5 c = V c) → V5 43 7 = V 43 7 → CpRw V5 43 (fun i => V 381 (206 * (5 + u) + i)) (kdV V) R → CpB0 V5 43 (fun i => V 381 (206 * (5 + u) + i)) B' → CpMd V5 43 (fun i => V 381 (206 * (5 + u) + i)) B' → Mi K (d + 3) mX12_undo [vR 369] (upm V5 142 3 (u : Int)) (fun z2 V2 => z2 = 1 ∧ Inv V2)) := by
      intro V5 B' f1 f2 f3 f4 f5
      have e42 : ∀ c, c ≠ 142 → upm V5 142 3 (u : Int) c = V5 c := fun c hc => upm_off c hc
      refine Mi.use (m_undo (d := d + 2) (u := u) (by rw [e42 369 (by decide), f1 369 (by omega) (by omega)]; exact u3) (by omega)) (fun z V6 ⟨hz, h6⟩ => ⟨hz, inv_undo hT hK hTo hLw l4 hM hH hLn hmd u2 (V5 := upm V5 142 3 (u : Int)) (fun c q1 q2 q3 => by rw [e42 c q3]; exact f1 c q1 q2) (upm_s _ _ _ _) (by rw [e42 43 (by decide)]; exact f2) (f3.congr (by rw [e42 43 (by decide)]) (fun r hr => ⟨e42 _ (by omega), e42 _ (by omega)⟩) (fun _ _ => rfl)) (f4.congr (by rw [e42 43 (by decide)]) (fun k hk => ⟨by rw [e42 _ (by have := f4.2.2.1; omega)], e42 _ (by have := f4.2.2.1; omega)⟩) (fun _ _ _ => rfl)) (f5.congr f4.2.2.1 (fun k hk => by rw [e42 _ (by have := f4.2.2.1; omega)]) (fun _ _ _ => rfl)) h6⟩)
    refine ⟨fun _ => dw.use (dx.use (dv.use ?_)), fun c => by omega⟩
    rw [show (142 + 1 : Nat) = 143 from rfl, show (142 + 2 : Nat) = 144 from rfl, show (142 + 3 : Nat) = 145 from rfl]
    rcases hlk with ⟨e, i, a1, a2, a3, a4⟩ | ⟨e, i, a1, a2, a3, a4, a5⟩ | ⟨e, i, a1, a2, a3⟩ | ⟨e, i, a1, a2, a3, a4, a5, a6, a7⟩ | ⟨e, a1, a2, a3⟩
    · rw [e, a1]
      obtain ⟨m, y1, y2, y3, y4, -⟩ := l1.2.2 i a2
      refine ⟨fun _ => ?_, fun c => absurd c (by decide), fun c => absurd c (by decide), fun c => absurd c (by decide), fun c => by omega⟩
      refine (c_shrink (d := d + 1) is43 l1 _).use (fun z V5 hz => ⟨_, rfl, ?_⟩)
      rcases hz with ⟨c1, -, -, k1, k2⟩ | ⟨c1, -, -⟩
      · rw [tn] at k1 k2
        refine fin V5 B (fun c q1 q2 => k1 c (by omega)) (by rw [k1 43 (by omega)]) (k2 _ a4) ?_ ?_
        · refine l2.congr (by rw [k1 43 (by omega)]) (fun k hk => ⟨by rw [k1 _ (by omega)], k1 _ (by omega)⟩) (fun j q1 q2 => a4.2 j (by omega) (by omega) ?_)
          rw [a4.1, y2]; omega
        · refine l3.congr hB (fun k hk => by rw [k1 _ (by omega)]) (fun j q1 q2 => a4.2 j (by omega) (by omega) ?_)
          rw [a4.1, y2]; omega
      · refine absurd ⟨⟨by omega, by omega⟩, ?_⟩ c1
        have h1 := a4.1
        have h2 : 1 ≤ V 381 (206 * (5 + u) + i) := a3
        have h3 : V 381 (206 * (5 + u) + i) = V 381 i - 1 := h1
        rw [tn]; omega
    · rw [e, a1]
      obtain ⟨m, y1, y2, y3, y4, -⟩ := l1.2.2 i a2
      refine ⟨fun c => absurd c (by decide), fun _ => ?_, fun c => absurd c (by decide), fun c => absurd c (by decide), fun c => by omega⟩
      refine (c_grow (d := d + 1) is43 l1 _ _).use (fun z V5 hz => ⟨_, rfl, ?_⟩)
      rcases hz with ⟨c1, -, k1, k2⟩ | ⟨c1, -, -⟩
      · rw [tn] at k1 k2
        refine fin V5 B (fun c q1 q2 => k1 c (by omega) (by omega)) (by rw [k1 43 (by omega) (by omega)]) (k2 _ a5) ?_ ?_
        · refine l2.congr (by rw [k1 43 (by omega) (by omega)]) (fun k hk => ⟨by rw [k1 _ (by omega) (by omega)], k1 _ (by omega) (by omega)⟩) (fun j q1 q2 => a5.2.2 j (by omega) (by omega) ?_)
          rw [y2]; omega
        · refine l3.congr hB (fun k hk => by rw [k1 _ (by omega) (by omega)]) (fun j q1 q2 => a5.2.2 j (by omega) (by omega) ?_)
          rw [y2]; omega
      · exact absurd ⟨⟨by omega, by omega⟩, a3, by rw [tn]; exact a4⟩ c1
    · rw [e, a1]
      obtain ⟨m, y1, y2, y3, y4, -⟩ := l1.2.2 i a2
      refine ⟨fun c => absurd c (by decide), fun c => absurd c (by decide), fun _ => ?_, fun c => absurd c (by decide), fun c => by omega⟩
      refine (c_reverse (d := d + 1) is43 l1 _).use (fun z V5 hz => ⟨_, rfl, ?_⟩)
      rcases hz with ⟨c1, -, k1, k2⟩ | ⟨c1, -, -⟩
      · rw [tn] at k1 k2
        refine fin V5 B (fun c q1 q2 => k1 c (by omega)) (by rw [k1 43 (by omega)]) (k2 _ a3) ?_ ?_
        · refine l2.congr (by rw [k1 43 (by omega)]) (fun k hk => ⟨by rw [k1 _ (by omega)], k1 _ (by omega)⟩) (fun j q1 q2 => a3.2.2 j (by omega) ?_)
          rw [y2]; omega
        · refine l3.congr hB (fun k hk => by rw [k1 _ (by omega)]) (fun j q1 q2 => a3.2.2 j (by omega) ?_)
          rw [y2]; omega
      · exact absurd ⟨by omega, by omega⟩ c1
    · rw [e, a1]
      have hi : i < B := by omega
      refine ⟨fun c => absurd c (by decide), fun c => absurd c (by decide), fun c => absurd c (by decide), fun _ => ?_, fun c => by omega⟩
      refine (c_crossBack (d := d) (w := i) is43 l2 hi a4 a5).use (fun V5 ⟨k1, k2⟩ => ⟨_, rfl, ?_⟩)
      refine fin V5 B (fun c q1 q2 => k1 c (by omega)) (by rw [k1 43 (by omega)]) ?_ (k2 _ a7) ?_
      · exact l1.congr (by rw [k1 43 (by omega)]) (fun r hr => ⟨k1 _ (by omega), k1 _ (by omega)⟩) (fun j q => a7.2 j (by omega) (by omega))
      · exact l3.congr hB (fun k hk => by rw [k1 _ (by omega)]) (fun j q1 q2 => a7.2 j (by omega) (by omega))
    · rw [e]
      have h84 : V 381 (206 * (5 + u) + 84) = V 381 84 - 1 := a3.1
      have a1' : 0 ≤ V 381 (206 * (5 + u) + 84) := a1
      have l26 := l2.1
      obtain ⟨B', rfl⟩ : ∃ B', B = B' + 1 := ⟨B - 1, by omega⟩
      refine ⟨fun c => absurd c (by decide), fun c => absurd c (by decide), fun c => absurd c (by decide), fun c => absurd c (by decide), fun _ => ?_⟩
      rw [l26]
      refine ⟨fun c => by omega, fun _ => ⟨_, rfl, ?_⟩⟩
      rw [w32_p (i := B') (by omega)]
      have k1 : ∀ c, c ≠ 43 → upm V 43 6 (B' : Int) c = V c := fun c hc => upm_off c hc
      have ea : (fun i => V 381 (206 * (5 + u) + i)) 84 = (B' : Int) := by show V 381 (206 * (5 + u) + 84) = _; omega
      have a3' := a3.2
      rw [ea, tn] at a3'
      refine fin (upm V 43 6 (B' : Int)) B' (fun c q1 q2 => k1 c (by omega)) (upm_k (by decide)) ?_ (l2.drop (upm_s _ _ _ _) k1 a3) ?_
      · exact l1.congr (upm_k (by decide)) (fun r hr => ⟨k1 _ (by omega), k1 _ (by omega)⟩) (fun j q => a3' j (by omega) (by omega) (by omega) (by omega) (by omega))
      · intro k hk
        rw [k1 _ (by omega)]
        have := a3' (93 + k) (by omega) (by omega) (by omega) (by omega) (by omega)
        rw [this]
        exact l3 k (by omega)
end UND
