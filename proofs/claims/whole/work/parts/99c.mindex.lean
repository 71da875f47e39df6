/-! ===== the reference's index ===== -/
theorem ix99a {k : Nat} (h : k ≤ 140) : w32 (140 + (k : Int)) = ((140 + k : Nat) : Int) := by rw [w32_id (by omega) (by omega)]; omega
theorem ix99b {k : Nat} (h : k ≤ 1099) : w32 (1100 + (k : Int)) = ((1100 + k : Nat) : Int) := by rw [w32_id (by omega) (by omega)]; omega
theorem ix99c {k : Nat} (h : k ≤ 100) : w32 (8 + (k : Int)) = ((8 + k : Nat) : Int) := by rw [w32_id (by omega) (by omega)]; omega
section MIY
variable {K : KK} {d : Nat} {V : Mem} {t : Nat → Int} {L : Nat}
theorem m_stands : Mv K d mX12_standsAsAlways [vR 369, vI 140] V (fun V' => (∀ c, c ≠ 375 → V' c = V c) ∧ (∀ j, j < 140 → V' 375 j = V 375 j) ∧ V' 375 142 = -1 ∧ ∀ k, k < 140 → k ≠ 2 → V' 375 (140 + k) = 0) := by
  have e2 : (w32 (140 + 2)).toNat = 142 := by decide
  have loop : ∀ k, k ≤ 140 → ∀ W : Mem, (∀ c, c ≠ 375 → W c = V c) → (∀ j, j < 140 → W 375 j = V 375 j) → (∀ q, q < k → W 375 (140 + q) = 0) → Wf K d mX12_standsAsAlways 2 [some (vR 369), some (vI 140), some (vI (k : Int))] [] W (fun r V' => r = none ∧ (∀ c, c ≠ 375 → V' c = V c) ∧ (∀ j, j < 140 → V' 375 j = V 375 j) ∧ V' 375 142 = -1 ∧ ∀ k, k < 140 → k ≠ 2 → V' 375 (140 + k) = 0) := by
    refine up_ind ?_ ?_
    · intro W w1 w2 w3
      refine sX12_standsAsAlways_2 _ _ ⟨fun _ => ⟨by decide, ?_⟩, fun q => absurd (by decide) q⟩
      rw [e2]
      exact ⟨rfl, fun c p => by rw [upm_off c p]; exact w1 c p, fun j p => by rw [upm_k (by omega)]; exact w2 j p, upm_s _ _ _ _, fun k p1 p2 => by rw [upm_k (by omega)]; exact w3 k p1⟩
    · intro k hk ih W w1 w2 w3
      refine sX12_standsAsAlways_2 _ _ ⟨fun q => by omega, fun _ => ?_⟩
      rw [ix99a (by omega), tn, w32_s (i := k) (by omega)]
      refine ⟨⟨by omega, by omega⟩, ih _ (fun c p => by rw [upm_off c p]; exact w1 c p) (fun j p => by rw [upm_k (by omega)]; exact w2 j p) (fun q hq => ?_)⟩
      by_cases c : q = k
      · rw [c, upm_s]
      · rw [upm_k (by omega)]; exact w3 q (by omega)
  exact sX12_standsAsAlways _ (loop 0 (by omega) V (fun _ _ => rfl) (fun _ _ => rfl) (fun q hq => by omega))
theorem StI.congr {I : Nat → Int} {R BT : Nat} {h h' : Nat → Int} (a : StI I R BT h) (hR : R ≤ 4) (hB : BT ≤ 4) (hm : ∀ r, r < R → 1 ≤ I (4 + 22 * r) ∧ I (4 + 22 * r) ≤ 20) (e : ∀ j, j < 181 → h' j = h j) : StI I R BT h' := by
  refine ⟨fun r hr => ⟨by rw [e r (by omega)]; exact (a.1 r hr).1, fun p hp => ?_⟩, by rw [e 84 (by omega)]; exact a.2.1, fun k hk => ⟨by rw [e _ (by omega)]; exact (a.2.2 k hk).1, by rw [e _ (by omega)]; exact (a.2.2 k hk).2.1, fun s hs => by rw [e _ (by omega)]; exact (a.2.2 k hk).2.2 s hs⟩⟩
  have := hm r hr
  rw [e _ (by omega)]; exact (a.1 r hr).2 p hp
theorem m_begins {R BT : Nat} (h0 : V 375 0 = R) (hR : R ≤ 4) (h1 : V 375 1 = BT) (hB : BT ≤ 4) (hm : ∀ r, r < R → 1 ≤ V 375 (4 + 22 * r) ∧ V 375 (4 + 22 * r) ≤ 20) : Mv K (d + 2) mX12_begins [vR 369] V (fun V' => (∀ c, c ≠ 369 → c ≠ 378 → c ≠ 381 → c ≠ 382 → V' c = V c) ∧ (∀ j, j ≠ 18 → j ≠ 19 → V' 369 j = V 369 j) ∧ V' 369 19 = BT ∧ V' 369 18 = 0 ∧ V' 378 0 = 0 ∧ V' 381 181 = 0 ∧ StI (V 375) R BT (V' 381) ∧ ∀ m, m < 4 → V' 382 m = 0) := by
  refine sX12_begins (Mv.use (m_starts (d := d) (b := 0) (by omega) h0 hR h1 hB hm) ?_)
  rintro X ⟨x1, x2, x3⟩
  rw [upm_off 375 (by decide), x1 375 (by decide), h1]
  generalize hY : upm (upm (upm (upm X 381 181 0) 369 19 (BT : Int)) 378 0 0) 369 18 0 = Y
  have yC : ∀ c, c ≠ 369 → c ≠ 378 → c ≠ 381 → Y c = V c := fun c p1 p2 p3 => by rw [← hY, upm_off c p1, upm_off c p2, upm_off c p1, upm_off c p3]; exact x1 c p3
  have y9 : ∀ j, j ≠ 18 → j ≠ 19 → Y 369 j = V 369 j := fun j p1 p2 => by rw [← hY, upm_k p1, upm_off 369 (by decide), upm_k p2, upm_off 369 (by decide), x1 369 (by decide)]
  have y19 : Y 369 19 = BT := by rw [← hY, upm_k (by decide), upm_off 369 (by decide), upm_s]
  have y18 : Y 369 18 = 0 := by rw [← hY, upm_s]
  have y78 : Y 378 0 = 0 := by rw [← hY, upm_off 378 (by decide), upm_s]
  have y181 : Y 381 181 = 0 := by rw [← hY, upm_off 381 (by decide), upm_off 381 (by decide), upm_off 381 (by decide), upm_s]
  have y81 : ∀ j, j < 181 → Y 381 j = bk X 0 j := fun j p => by
    rw [← hY, upm_off 381 (by decide), upm_off 381 (by decide), upm_off 381 (by decide), upm_k (by omega)]
    show X 381 j = X 381 (0 + j)
    rw [Nat.zero_add]
  have yS : StI (V 375) R BT (Y 381) := x3.congr hR hB hm y81
  clear hY
  have loop : ∀ k, k ≤ 4 → ∀ W : Mem, (∀ c, c ≠ 382 → W c = Y c) → (∀ m, m < k → W 382 m = 0) → Wf K (d + 2) mX12_begins 38 [some (vR 369), some (vI (k : Int))] [] W (fun r V' => r = none ∧ (∀ c, c ≠ 369 → c ≠ 378 → c ≠ 381 → c ≠ 382 → V' c = V c) ∧ (∀ j, j ≠ 18 → j ≠ 19 → V' 369 j = V 369 j) ∧ V' 369 19 = BT ∧ V' 369 18 = 0 ∧ V' 378 0 = 0 ∧ V' 381 181 = 0 ∧ StI (V 375) R BT (V' 381) ∧ ∀ m, m < 4 → V' 382 m = 0) := by
    refine up_ind ?_ ?_
    · intro W w1 w2
      refine sX12_begins_38 _ ⟨fun _ => ⟨rfl, fun c p1 p2 p3 p4 => by rw [w1 c p4]; exact yC c p1 p2 p3, fun j p1 p2 => by rw [w1 369 (by decide)]; exact y9 j p1 p2, by rw [w1 369 (by decide)]; exact y19, by rw [w1 369 (by decide)]; exact y18, by rw [w1 378 (by decide)]; exact y78, by rw [w1 381 (by decide)]; exact y181, by rw [w1 381 (by decide)]; exact yS, w2⟩, fun q => absurd (by decide) q⟩
    · intro k hk ih W w1 w2
      refine sX12_begins_38 _ ⟨fun q => by omega, fun _ => ?_⟩
      rw [tn, w32_s (i := k) (by omega)]
      refine ⟨⟨by omega, by omega⟩, Or.inl rfl, ih _ (fun c p => by rw [upm_off c p]; exact w1 c p) (fun m hm => ?_)⟩
      by_cases c : m = k
      · rw [c, upm_s]
      · rw [upm_k c]; exact w2 m (by omega)
  exact loop 0 (by omega) Y (fun _ _ => rfl) (fun m hm => by omega)
/-- the reference's told things -/
def MT (V : Mem) (t : Nat → Int) (L R B w : Nat) (C : List (Int × Int)) (rI bI : Nat → Nat) : Prop := (V 375 0 = (R : Nat) ∧ V 375 1 = (B : Nat) ∧ R ≤ 4 ∧ B ≤ 4 ∧ (∀ r, r < R → V 377 r = wT 37 t L (rI r + 1)) ∧ ∀ b, b < B → V 377 (4 + b) = wT 37 t L (bI b + 1)) ∧ (∀ r, r < R → 1 ≤ rwQ t L (rI r) ∧ V 375 (3 + 22 * r) = cT t L (rI r + 2) - 136 ∧ V 375 (4 + 22 * r) = (rwQ t L (rI r) : Nat) ∧ ∀ p, p < rwQ t L (rI r) → V 375 (5 + 22 * r + p) = nT t L (rI r + 3 + p)) ∧ (∀ b, b < B → V 375 (91 + 11 * b) = (bdQ t L (bI b) : Nat) ∧ ∀ p, p < bdQ t L (bI b) → V 375 (92 + 11 * b + p) = nT t L (bI b + 2 + p)) ∧ ((w = 0 ∧ V 375 2 = -1 ∧ C = [(2, 0)]) ∨ (w = 1 ∧ V 375 2 = 0 ∧ (∀ j, j < C.length → V 376 j = (gP C j).1 + 16 * (gP C j).2) ∧ V 376 C.length = 0))
abbrev MTs (V : Mem) (t : Nat → Int) (L : Nat) (s : IS) : Prop := MT V t L s.2.1 s.2.2.1 s.2.2.2.1 s.2.2.2.2.1 s.2.2.2.2.2.1 s.2.2.2.2.2.2
/-- the reference behind an index whose reading ended with res -/
def MIp (t : Nat → Int) (L : Nat) (res : Int × IS) (V : Mem) (z : Int) (V' : Mem) : Prop := z = res.1 ∧ V' 369 2 = 0 ∧ ((z ≠ 0 ∧ (∀ c, c ≠ 369 → c ≠ 371 → c ≠ 372 → c ≠ 373 → c ≠ 375 → c ≠ 376 → c ≠ 377 → V' c = V c) ∧ (∀ j, j ≠ 0 → j ≠ 2 → j ≠ 3 → j ≠ 7 → j ≠ 8 → j ≠ 12 → V' 369 j = V 369 j) ∧ (∀ j, j < 140 → V' 375 j = V 375 j) ∧ (∀ j, j < 8 → V' 377 j = V 377 j) ∧ ∀ j, j < 1100 → V' 376 j = V 376 j) ∨ (z = 0 ∧ (∀ c, c ≠ 369 → c ≠ 371 → c ≠ 372 → c ≠ 373 → c ≠ 375 → c ≠ 376 → c ≠ 377 → c ≠ 378 → c ≠ 381 → c ≠ 382 → V' c = V c) ∧ MTs V' t L res.2 ∧ V' 369 19 = (res.2.2.2.1 : Nat) ∧ V' 369 18 = 0 ∧ V' 378 0 = 0 ∧ V' 381 181 = 0 ∧ StI (V' 375) res.2.2.1 res.2.2.2.1 (V' 381) ∧ ∀ m, m < 4 → V' 382 m = 0))
theorem m_index (h2 : V 369 2 = (L : Nat)) (hL : L ≤ 1000) (ht : ∀ i, i < L → V 370 i = t i) (hK : ∀ k, k < 19 → V 374 k = kw37 k) : Mi K (d + 34) mX12_index [vR 369] V (MIp t L (ixF t L 10 ix0) V) := by
  generalize hres : ixF t L 10 ix0 = res
  refine sX12_index (Mv.use (m_cutAll (d := d + 30) (V := upm V 369 0 0) (t := t) (L := L) (by rw [upm_k (by decide)]; exact h2) hL (fun i hi => by rw [upm_off 370 (by decide)]; exact ht i hi)) ?_)
  rintro U ⟨N, u1, u2, u3, u4, u5, u6, u7, u8, u9⟩
  refine Mv.use (m_stands (V := upm U 369 12 0)) ?_
  rintro A ⟨a1, a2, a3, a4⟩
  have aC : ∀ c, c ≠ 369 → c ≠ 371 → c ≠ 372 → c ≠ 373 → c ≠ 375 → A c = V c := fun c p1 p2 p3 p4 p5 => by rw [a1 c p5, upm_off c p1, u1 c p1 p2 p3 p4, upm_off c p1]
  have a9 : ∀ j, j ≠ 12 → A 369 j = U 369 j := fun j p => by rw [a1 369 (by decide), upm_k p]
  have a12 : A 369 12 = 0 := by rw [a1 369 (by decide), upm_s]
  have a375 : ∀ j, j < 140 → A 375 j = V 375 j := fun j p => by rw [a2 j p, upm_off 375 (by decide), u1 375 (by decide) (by decide) (by decide) (by decide), upm_off 375 (by decide)]
  have aU : ∀ c, c ≠ 369 → c ≠ 375 → A c = U c := fun c p1 p2 => by rw [a1 c p2, upm_off c p1]
  have aS : RS A t L N 0 := ⟨by rw [a9 7 (by decide)]; exact u4, Nat.zero_le _, by omega, fun j hj => (u9 j hj).congr (by rw [aU 371 (by decide) (by decide)]) (by rw [aU 372 (by decide) (by decide)]) (by rw [aU 373 (by decide) (by decide)]), fun k hk => by rw [aC 374 (by decide) (by decide) (by decide) (by decide) (by decide)]; exact hK k hk⟩
  -- behind a good reading
  have good : ∀ D : Mem, MFi A D → D 369 8 = 0 → MDs D t L res.2 → res.1 = 0 → Wf K (d + 34) mX12_index 67 [some (vR 369), some (vI 0)] [] D (fun r V' => ∃ z, r = some (vI z) ∧ MIp t L res V z V') := by
    intro D dF d8 dD r0
    obtain ⟨⟨n1, n2, n3, n4, n5, n6⟩, m2, m3, m4⟩ := dD
    have q20 : ∀ j, rwQ t L j ≤ 20 := fun j => (nr_at 20 (j + 3)).1
    have q10 : ∀ j, bdQ t L j ≤ 10 := fun j => (bq_at (t := t) (L := L) (b := j + 2) 10 0 rfl (fun k hk => by omega)).1
    obtain ⟨M, hM, hM2⟩ : ∃ M : Nat, D 369 12 = (M : Int) ∧ M ≤ 1001 := by
      rcases m4 with ⟨_, _, e, _⟩ | ⟨_, _, e, _, _⟩
      · exact ⟨0, e, by omega⟩
      · exact ⟨_, e.1, by have := e.2; omega⟩
    -- names
    have l3 : ∀ D2 : Mem, (∀ c, c ≠ 375 → c ≠ 376 → D2 c = D c) → (∀ j, j < 140 → D2 375 j = D 375 (140 + j)) → (∀ j, j < M → D2 376 j = D 376 (1100 + j)) → ∀ k, k ≤ 8 → ∀ W : Mem, (∀ c, c ≠ 377 → W c = D2 c) → (∀ j, j < k → W 377 j = D 377 (8 + j)) → (∀ j, 8 ≤ j → W 377 j = D 377 j) → Wf K (d + 34) mX12_index 130 [some (vR 369), some (vI (k : Int))] [] W (fun r V' => ∃ z, r = some (vI z) ∧ MIp t L res V z V') := by
      intro D2 f1 f2 f3
      refine up_ind ?_ ?_
      · intro W w1 w2 w3
        refine sX12_index_130 _ ⟨fun _ => ?_, fun q => absurd (by decide) q⟩
        have w375 : ∀ j, j < 140 → W 375 j = D 375 (140 + j) := fun j p => by rw [w1 375 (by decide)]; exact f2 j p
        have w376 : ∀ j, j < M → W 376 j = D 376 (1100 + j) := fun j p => by rw [w1 376 (by decide)]; exact f3 j p
        have wC : ∀ c, c ≠ 375 → c ≠ 376 → c ≠ 377 → W c = D c := fun c p1 p2 p3 => by rw [w1 c p3]; exact f1 c p1 p2
        have t0 : W 375 0 = (res.2.2.1 : Nat) := by rw [w375 0 (by omega)]; exact n1
        have t1 : W 375 1 = (res.2.2.2.1 : Nat) := by rw [w375 1 (by omega)]; exact n2
        refine Mv.use (m_begins (d := d + 31) t0 n3 t1 n4 (fun r hr => ?_)) ?_
        · rw [w375 (4 + 22 * r) (by omega), show 140 + (4 + 22 * r) = 144 + 22 * r by omega, (m2 r hr).2.2.1]
          have := (m2 r hr).1
          have := q20 (res.2.2.2.2.2.2.1 r)
          omega
        · rintro Y ⟨y1, y2, y3, y4, y5, y6, y7, y8⟩
          have y375 : Y 375 = W 375 := y1 375 (by decide) (by decide) (by decide) (by decide)
          have y376 : Y 376 = W 376 := y1 376 (by decide) (by decide) (by decide) (by decide)
          have y377 : Y 377 = W 377 := y1 377 (by decide) (by decide) (by decide) (by decide)
          refine ⟨0, rfl, r0.symm, ?_, Or.inr ⟨rfl, fun c p1 p2 p3 p4 p5 p6 p7 p8 p9 p10 => ?_, ⟨⟨by rw [y375]; exact t0, by rw [y375]; exact t1, n3, n4, fun r hr => ?_, fun b hb => ?_⟩, fun r hr => ?_, fun b hb => ?_, ?_⟩, y3, y4, y5, y6, by rw [y375]; exact y7, y8⟩⟩
          · rw [y2 2 (by decide) (by decide), wC 369 (by decide) (by decide) (by decide), dF.2.1 2 (by decide) (by decide) (by decide), a9 2 (by decide)]; exact u3
          · rw [y1 c p1 p8 p9 p10, wC c p5 p6 p7, dF.1 c p1 p5 p6 p7]; exact aC c p1 p2 p3 p4 p5
          · rw [y377, w2 r (by omega)]; exact n5 r hr
          · rw [y377, w2 (4 + b) (by omega), show 8 + (4 + b) = 12 + b by omega]; exact n6 b hb
          · have := q20 (res.2.2.2.2.2.2.1 r)
            rw [y375, w375 (3 + 22 * r) (by omega), w375 (4 + 22 * r) (by omega), show 140 + (3 + 22 * r) = 143 + 22 * r by omega, show 140 + (4 + 22 * r) = 144 + 22 * r by omega]
            exact ⟨(m2 r hr).1, (m2 r hr).2.1, (m2 r hr).2.2.1, fun p hp => by rw [w375 _ (by omega), show 140 + (5 + 22 * r + p) = 145 + 22 * r + p by omega]; exact (m2 r hr).2.2.2 p hp⟩
          · have := q10 (res.2.2.2.2.2.2.2 b)
            rw [y375, w375 (91 + 11 * b) (by omega), show 140 + (91 + 11 * b) = 231 + 11 * b by omega]
            exact ⟨(m3 b hb).1, fun p hp => by rw [w375 _ (by omega), show 140 + (92 + 11 * b + p) = 232 + 11 * b + p by omega]; exact (m3 b hb).2 p hp⟩
          · rw [y375, w375 2 (by omega)]
            rcases m4 with ⟨e1, e2, e3, e4⟩ | ⟨e1, e2, e3, e4, e5⟩
            · exact Or.inl ⟨e1, e2, e4⟩
            · refine Or.inr ⟨e1, e2, fun j hj => ?_, ?_⟩
              · have := e3.1
                rw [y376, w376 j (by omega)]; exact mcd_at _ e4 j hj
              · have := e3.1
                rw [y376, w376 _ (by omega)]; exact e5
      · intro k hk ih W w1 w2 w3
        refine sX12_index_130 _ ⟨fun q => by omega, fun _ => ?_⟩
        rw [ix99c (by omega), tn, tn, w32_s (i := k) (by omega), w3 (8 + k) (by omega)]
        refine ⟨⟨by omega, by omega⟩, ⟨by omega, by omega⟩, ih _ (fun c p => by rw [upm_off c p]; exact w1 c p) (fun j hj => ?_) (fun j hj => by rw [upm_k (by omega)]; exact w3 j hj)⟩
        by_cases c : j = k
        · rw [c, upm_s]
        · rw [upm_k c]; exact w2 j (by omega)
    -- codes
    have l2 : ∀ D1 : Mem, (∀ c, c ≠ 375 → D1 c = D c) → (∀ j, j < 140 → D1 375 j = D 375 (140 + j)) → ∀ k, k ≤ M → ∀ W : Mem, (∀ c, c ≠ 376 → W c = D1 c) → (∀ j, j < k → W 376 j = D 376 (1100 + j)) → (∀ j, 1100 ≤ j → W 376 j = D 376 j) → Wf K (d + 34) mX12_index 98 [some (vR 369), some (vI (k : Int))] [] W (fun r V' => ∃ z, r = some (vI z) ∧ MIp t L res V z V') := by
      intro D1 f1 f2
      refine up_ind ?_ ?_
      · intro W w1 w2 w3
        refine sX12_index_98 _ ⟨fun _ => ?_, fun q => absurd (by rw [w1 369 (by decide), f1 369 (by decide), hM]; exact Int.le_refl _) q⟩
        exact l3 W (fun c p1 p2 => by rw [w1 c p2]; exact f1 c p1) (fun j p => by rw [w1 375 (by decide)]; exact f2 j p) w2 0 (by omega) W (fun _ _ => rfl) (fun j hj => by omega) (fun j _ => by rw [w1 377 (by decide), f1 377 (by decide)])
      · intro k hk ih W w1 w2 w3
        refine sX12_index_98 _ ⟨fun q => absurd q (by rw [w1 369 (by decide), f1 369 (by decide), hM]; omega), fun _ => ?_⟩
        rw [ix99b (by omega), tn, tn, w32_s (i := k) (by omega), w3 (1100 + k) (by omega)]
        refine ⟨⟨by omega, by omega⟩, ⟨by omega, by omega⟩, ih _ (fun c p => by rw [upm_off c p]; exact w1 c p) (fun j hj => ?_) (fun j hj => by rw [upm_k (by omega)]; exact w3 j hj)⟩
        by_cases c : j = k
        · rw [c, upm_s]
        · rw [upm_k c]; exact w2 j (by omega)
    have l1 : ∀ k, k ≤ 140 → ∀ W : Mem, (∀ c, c ≠ 375 → W c = D c) → (∀ j, j < k → W 375 j = D 375 (140 + j)) → (∀ j, 140 ≤ j → W 375 j = D 375 j) → Wf K (d + 34) mX12_index 67 [some (vR 369), some (vI (k : Int))] [] W (fun r V' => ∃ z, r = some (vI z) ∧ MIp t L res V z V') := by
      refine up_ind ?_ ?_
      · intro W w1 w2 w3
        refine sX12_index_67 _ ⟨fun _ => ?_, fun q => absurd (by decide) q⟩
        exact l2 W w1 w2 0 (by omega) W (fun _ _ => rfl) (fun j hj => by omega) (fun j _ => by rw [w1 376 (by decide)])
      · intro k hk ih W w1 w2 w3
        refine sX12_index_67 _ ⟨fun q => by omega, fun _ => ?_⟩
        rw [ix99a (by omega), tn, tn, w32_s (i := k) (by omega), w3 (140 + k) (by omega)]
        refine ⟨⟨by omega, by omega⟩, ⟨by omega, by omega⟩, ih _ (fun c p => by rw [upm_off c p]; exact w1 c p) (fun j hj => ?_) (fun j hj => by rw [upm_k (by omega)]; exact w3 j hj)⟩
        by_cases c : j = k
        · rw [c, upm_s]
        · rw [upm_k c]; exact w2 j (by omega)
    exact l1 0 (by omega) D (fun _ _ => rfl) (fun j hj => by omega) (fun _ _ => rfl)
  -- behind a fault
  have bad : ∀ W : Mem, MFi A W → 0 < W 369 8 → res.1 = W 369 8 → Wf K (d + 34) mX12_index 21 [some (vR 369), none] [] W (fun r V' => ∃ z, r = some (vI z) ∧ MIp t L res V z V') := by
    intro W wF w8 wr
    refine sX12_index_21 ⟨fun _ => ⟨fun q => by omega, fun _ => ⟨_, rfl, wr.symm, ?_, Or.inl ⟨by omega, fun c p1 p2 p3 p4 p5 p6 p7 => ?_, fun j p1 p2 p3 p4 p5 p6 => ?_, fun j p => ?_, fun j p => ?_, fun j p => ?_⟩⟩⟩, fun q => by omega⟩
    · rw [wF.2.1 2 (by decide) (by decide) (by decide), a9 2 (by decide)]; exact u3
    · rw [wF.1 c p1 p5 p6 p7]; exact aC c p1 p2 p3 p4 p5
    · rw [wF.2.1 j p4 p5 p6, a9 j p6, u2 j p2 p3 p4 p5, upm_k p1]
    · rw [wF.2.2.1 j p]; exact a375 j p
    · rw [wF.2.2.2.1 j p, aC 377 (by decide) (by decide) (by decide) (by decide) (by decide)]
    · rw [wF.2.2.2.2 j p, aC 376 (by decide) (by decide) (by decide) (by decide) (by decide)]
  have loop : ∀ (f : Nat) (s : IS), f + ixN s = 10 → ixF t L f s = res → ∀ W : Mem, MFi A W → RS W t L N s.1 → W 369 8 = 0 → MDs W t L s → Wf K (d + 34) mX12_index 21 [some (vR 369), none] [] W (fun r V' => ∃ z, r = some (vI z) ∧ MIp t L res V z V') := by
    intro f
    induction f with
    | zero =>
      intro s e hw W wF wS w8 wD
      have h4 := wD.1.2.2.1
      have h5 := wD.1.2.2.2.1
      have h6 : s.2.2.2.1 ≤ 1 := by rcases wD.2.2.2 with ⟨x, _⟩ | ⟨x, _⟩ <;> omega
      unfold ixN at e
      omega
    | succ f ih =>
      intro s e hw W wF wS w8 wD
      have hw' : (if gT t L s.1 = 0 then ((0 : Int), s) else if (ixS t L s).1 = 0 then ixF t L f (ixS t L s).2 else ((ixS t L s).1, s)) = res := hw
      have wle := wS.2.1
      have wN := wS.2.2.1
      have b2 : W 371 s.1 = 0 ↔ gT t L s.1 = 0 := by rw [(wS.2.2.2.1 s.1 wle).2.1]; exact rso_0
      refine sX12_index_21 ⟨fun q => absurd w8 q, fun _ => ?_⟩
      rw [wS.1, tn, b2]
      refine ⟨⟨by omega, by omega⟩, fun c => ⟨fun _ => ?_, fun q => by omega⟩, fun c => ?_⟩
      · rw [if_pos c] at hw'
        have r2 : res.2 = s := by rw [← hw']
        exact good W wF w8 (by rw [r2]; exact wD) (by rw [← hw'])
      · rw [if_neg c] at hw'
        refine Mv.use (m_readLine (d := d) (i := s.1) (R := s.2.1) (B := s.2.2.1) (w := s.2.2.2.1) (C := s.2.2.2.2.1) (rI := s.2.2.2.2.2.1) (bI := s.2.2.2.2.2.2) hL u8 wS w8 c wD) ?_
        rintro X ⟨x1, x2⟩
        have hx : ∀ s' : IS, ixS t L (s.1, s.2.1, s.2.2.1, s.2.2.2.1, s.2.2.2.2.1, s.2.2.2.2.2.1, s.2.2.2.2.2.2) = ixS t L s := fun _ => rfl
        rw [hx s] at x2
        rcases x2 with ⟨y1, y2, j, y3, y4⟩ | ⟨y1, e, y2, y3, y4, y5⟩
        · refine Mv.use (m_takeSign0 (d := d + 32) (by omega)) ?_
          intro Y eY
          rw [if_neg (by omega)] at hw'
          rw [eY]
          exact bad X (wF.trans x1) y1 (by rw [← y2, ← hw'])
        · refine Mv.use (m_takeSign (d := d + 32) y2 hL (by decide) y1) ?_
          intro Y eY
          by_cases c59 : cT t L e = 59
          · rw [if_pos c59] at eY y4
            rw [if_pos y4] at hw'
            have hn : ixN (ixS t L s).2 = ixN s + 1 := ixS_n y4
            have hn1 := tk_nx u8 y2.2.1 (c_g (by omega))
            have yF : MFi X Y := by rw [eY]; exact MFr.at7.fi
            have yS : RS Y t L N (ixS t L s).2.1 := by
              rw [y3]
              exact y2.mov (by rw [eY, upm_s]) hn1 (by rw [eY, upm_off 371 (by decide)]) (by rw [eY, upm_off 372 (by decide)]) (by rw [eY, upm_off 373 (by decide)]) (by rw [eY, upm_off 374 (by decide)])
            refine ih (ixS t L s).2 (by omega) hw' Y ((wF.trans x1).trans yF) yS (by rw [eY, upm_k (by decide)]; exact y1) ?_
            obtain ⟨⟨n1, n2, n3, n4, n5, n6⟩, m2, m3, m4⟩ := y5 c59
            have y375 : Y 375 = X 375 := by rw [eY, upm_off 375 (by decide)]
            have y376 : Y 376 = X 376 := by rw [eY, upm_off 376 (by decide)]
            have y377 : Y 377 = X 377 := by rw [eY, upm_off 377 (by decide)]
            have y12 : Y 369 12 = X 369 12 := by rw [eY, upm_k (by decide)]
            refine ⟨⟨by rw [y375]; exact n1, by rw [y375]; exact n2, n3, n4, fun r hr => by rw [y377]; exact n5 r hr, fun b hb => by rw [y377]; exact n6 b hb⟩, fun r hr => by rw [y375]; exact m2 r hr, fun b hb => by rw [y375]; exact m3 b hb, ?_⟩
            rw [y375, y376, y12]
            rcases m4 with m4 | ⟨e1, e2, e3, e4, e5⟩
            · exact Or.inl m4
            · exact Or.inr ⟨e1, e2, e3, mcd_congr (V := X) _ (fun j _ => by rw [y376]) e4, e5⟩
          · rw [if_neg c59] at eY y4
            have hp := ft_pos (t := t) (L := L) (i := e) (w := 1) (by omega)
            rw [if_neg (by omega)] at hw'
            have y8 : Y 369 8 = ftT t L e 1 := by rw [eY, upm_s]
            exact bad Y ((wF.trans x1).trans (by rw [eY]; exact MFr.at8.fi)) (by rw [y8]; exact hp) (by rw [y8, ← y4, ← hw'])
  refine loop 10 ix0 rfl hres A ⟨fun _ _ _ _ _ => rfl, fun _ _ _ _ => rfl, fun _ _ => rfl, fun _ _ => rfl, fun _ _ => rfl⟩ aS (by rw [a9 8 (by decide)]; exact u5) ⟨⟨a4 0 (by omega) (by omega), a4 1 (by omega) (by omega), by decide, by decide, fun r hr => absurd hr (Nat.not_lt_zero r), fun r hr => absurd hr (Nat.not_lt_zero r)⟩, fun r hr => absurd hr (Nat.not_lt_zero r), fun r hr => absurd hr (Nat.not_lt_zero r), Or.inl ⟨rfl, a3, a12, rfl⟩⟩
end MIY
