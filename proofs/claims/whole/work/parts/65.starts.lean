/-! ===== the reference's start; a line of a work, both sides ===== -/
/-- a block as an index tells it -/
def StI (I : Nat → Int) (R BT : Nat) (h : Nat → Int) : Prop := (∀ r, r < R → h r = I (4 + 22 * r) ∧ ∀ p, p < (I (4 + 22 * r)).toNat → h (4 + 20 * r + p) = I (5 + 22 * r + p)) ∧ h 84 = BT ∧ ∀ k, k < BT → h (85 + k) = I (91 + 11 * k) ∧ h (93 + k) = k ∧ ∀ s, s < 10 → h (101 + 10 * k + s) = I (92 + 11 * k + s)
theorem js1 {r : Nat} (h : r < 4) : w32 (w32 (3 + w32 (22 * (r : Int))) + 1) = ((4 + 22 * r : Nat) : Int) := by rw [ix1 h, w32_id (by omega) (by omega)]; omega
theorem js2 {r p : Nat} (h : r < 4) (hp : p ≤ 20) : w32 (w32 (w32 (3 + w32 (22 * (r : Int))) + 2) + (p : Int)) = ((5 + 22 * r + p : Nat) : Int) := by rw [ix1 h, w32_id (x := ((3 + 22 * r : Nat) : Int) + 2) (by omega) (by omega), w32_id (by omega) (by omega)]; omega
theorem js3 {k : Nat} (h : k < 8) : w32 (91 + w32 (11 * (k : Int))) = ((91 + 11 * k : Nat) : Int) := by rw [w32_id (x := 11 * (k : Int)) (by omega) (by omega), w32_id (by omega) (by omega)]; omega
theorem js4 {k s : Nat} (h : k < 8) (hs : s ≤ 10) : w32 (w32 (w32 (91 + w32 (11 * (k : Int))) + 1) + (s : Int)) = ((92 + 11 * k + s : Nat) : Int) := by rw [js3 h, w32_id (x := ((91 + 11 * k : Nat) : Int) + 1) (by omega) (by omega), w32_id (by omega) (by omega)]; omega
theorem js5 {b k : Nat} (hb : b ≤ 4326) (hk : k < 8) : w32 (w32 ((b : Int) + 93) + (k : Int)) = ((b + (93 + k) : Nat) : Int) := by rw [w32_id (x := (b : Int) + 93) (by omega) (by omega), w32_id (by omega) (by omega)]; omega
section STA
variable {K : KK} {d : Nat} {V : Mem}
theorem m_starts {b R BT : Nat} (hb : b ≤ 4326) (h0 : V 375 0 = R) (hR : R ≤ 4) (h1 : V 375 1 = BT) (hB : BT ≤ 4) (hm : ∀ r, r < R → 1 ≤ V 375 (4 + 22 * r) ∧ V 375 (4 + 22 * r) ≤ 20) : Mv K (d + 1) mX12_starts [vR 369, vI (b : Int)] V (fun V' => (∀ c, c ≠ 381 → V' c = V c) ∧ (∀ j, j < b ∨ b + 181 ≤ j → V' 381 j = V 381 j) ∧ StI (V 375) R BT (bk V' b)) := by
  refine sX12_starts _ ?_
  -- braids
  have wqC : ∀ V1 : Mem, (∀ c, c ≠ 381 → V1 c = V c) → (∀ j, j < b ∨ b + 181 ≤ j → V1 381 j = V 381 j) → (∀ r, r < R → bk V1 b r = V 375 (4 + 22 * r) ∧ ∀ p, p < (V 375 (4 + 22 * r)).toNat → bk V1 b (4 + 20 * r + p) = V 375 (5 + 22 * r + p)) → bk V1 b 84 = BT → ∀ k, k ≤ BT → ∀ V' : Mem, (∀ c, c ≠ 381 → V' c = V1 c) → (∀ j, j < b + 85 ∨ b + 181 ≤ j → V' 381 j = V1 381 j) → (∀ q, q < k → bk V' b (85 + q) = V 375 (91 + 11 * q) ∧ bk V' b (93 + q) = q ∧ ∀ s, s < 10 → bk V' b (101 + 10 * q + s) = V 375 (92 + 11 * q + s)) → Wf K (d + 1) mX12_starts 128 [some (vR 369), some (vI (b : Int)), some (vI (k : Int)), none] [] V' (fun r V' => r = none ∧ (∀ c, c ≠ 381 → V' c = V c) ∧ (∀ j, j < b ∨ b + 181 ≤ j → V' 381 j = V 381 j) ∧ StI (V 375) R BT (bk V' b)) := by
    intro V1 f1 f2 f3 f4
    refine up_ind ?_ ?_
    · intro V' g1 g2 g3
      have e : ∀ i, i < 85 → bk V' b i = bk V1 b i := fun i hi => g2 _ (by omega)
      refine sX12_starts_128 _ _ ⟨fun _ => ⟨rfl, fun c q => by rw [g1 c q]; exact f1 c q, fun j q => by rw [g2 j (by omega)]; exact f2 j q, fun r hr => ?_, by rw [e 84 (by omega)]; exact f4, g3⟩, fun c => absurd (by rw [g1 375 (by decide), f1 375 (by decide), h1]; exact Int.le_refl _) c⟩
      have := hm r hr
      exact ⟨by rw [e r (by omega)]; exact (f3 r hr).1, fun p hp => by rw [e _ (by omega)]; exact (f3 r hr).2 p hp⟩
    · intro k hk ih V' g1 g2 g3
      have e375 : V' 375 = V 375 := by rw [g1 375 (by decide), f1 375 (by decide)]
      refine sX12_starts_128 _ _ ⟨fun c => absurd c (by rw [e375, h1]; omega), fun _ => ?_⟩
      rw [js3 (show k < 8 by omega), ix5 hb (show k < 8 by omega), js5 hb (show k < 8 by omega), tn, tn, tn, e375]
      refine ⟨⟨by omega, by omega⟩, ⟨by omega, by omega⟩, ⟨by omega, by omega⟩, ?_⟩
      have wqD : ∀ s, s ≤ 10 → ∀ V3 : Mem, (∀ c, c ≠ 381 → V3 c = V1 c) → (∀ j, j < b + 85 ∨ b + 181 ≤ j → V3 381 j = V1 381 j) → (∀ q, q < k → bk V3 b (85 + q) = V 375 (91 + 11 * q) ∧ bk V3 b (93 + q) = q ∧ ∀ s, s < 10 → bk V3 b (101 + 10 * q + s) = V 375 (92 + 11 * q + s)) → bk V3 b (85 + k) = V 375 (91 + 11 * k) → bk V3 b (93 + k) = k → (∀ t, t < s → bk V3 b (101 + 10 * k + t) = V 375 (92 + 11 * k + t)) → Wf K (d + 1) mX12_starts 175 [some (vR 369), some (vI (b : Int)), some (vI (k : Int)), some (vI (s : Int))] [] V3 (fun r V' => r = none ∧ (∀ c, c ≠ 381 → V' c = V c) ∧ (∀ j, j < b ∨ b + 181 ≤ j → V' 381 j = V 381 j) ∧ StI (V 375) R BT (bk V' b)) := by
        refine up_ind ?_ ?_
        · intro V3 j1 j2 j3 j4 j5 j6
          refine sX12_starts_175 _ _ _ ⟨fun _ => ?_, fun c => absurd (by decide) c⟩
          rw [w32_s (i := k) (by omega)]
          refine ih V3 j1 j2 (fun q hq => ?_)
          by_cases c : q = k
          · rw [c]; exact ⟨j4, j5, j6⟩
          · exact j3 q (by omega)
        · intro s hs ih2 V3 j1 j2 j3 j4 j5 j6
          refine sX12_starts_175 _ _ _ ⟨fun c => by omega, fun _ => ?_⟩
          rw [js4 (show k < 8 by omega) (show s ≤ 10 by omega), ixe hb (show k < 8 by omega) (show s < 10 by omega), tn, tn, w32_s (i := s) (by omega), j1 375 (by decide), f1 375 (by decide)]
          have o : ∀ i, i ≠ 101 + 10 * k + s → bk (upm V3 381 (b + (101 + 10 * k + s)) (V 375 (92 + 11 * k + s))) b i = bk V3 b i := fun i hi => by
            show upm V3 381 _ _ 381 (b + i) = V3 381 (b + i)
            rw [upm_k (by omega)]
          refine ⟨⟨by omega, by omega⟩, ⟨by omega, by omega⟩, ih2 _ (fun c q => (upm_off c q).trans (j1 c q)) (fun j q => by rw [upm_k (by omega)]; exact j2 j q) (fun q hq => ?_) (by rw [o _ (by omega)]; exact j4) (by rw [o _ (by omega)]; exact j5) (fun t ht => ?_)⟩
          · obtain ⟨x1, x2, x3⟩ := j3 q hq
            exact ⟨by rw [o _ (by omega)]; exact x1, by rw [o _ (by omega)]; exact x2, fun t ht => by rw [o _ (by omega)]; exact x3 t ht⟩
          · by_cases c : t = s
            · rw [c]
              show upm V3 381 _ _ 381 _ = _
              rw [upm_s]
            · rw [o _ (by omega)]; exact j6 t (by omega)
      have o : ∀ i, i ≠ 85 + k → i ≠ 93 + k → bk (upm (upm V' 381 (b + (85 + k)) (V 375 (91 + 11 * k))) 381 (b + (93 + k)) (k : Int)) b i = bk V' b i := fun i q1 q2 => by
        show upm (upm V' 381 _ _) 381 _ _ 381 (b + i) = V' 381 (b + i)
        rw [upm_k (by omega), upm_k (by omega)]
      refine wqD 0 (by omega) _ (fun c q => by rw [upm_off c q, upm_off c q]; exact g1 c q) (fun j q => by rw [upm_k (by omega), upm_k (by omega)]; exact g2 j q) (fun q hq => ?_) ?_ ?_ (fun t ht => absurd ht (Nat.not_lt_zero t))
      · obtain ⟨x1, x2, x3⟩ := g3 q hq
        exact ⟨by rw [o _ (by omega) (by omega)]; exact x1, by rw [o _ (by omega) (by omega)]; exact x2, fun t ht => by rw [o _ (by omega) (by omega)]; exact x3 t ht⟩
      · show upm (upm V' 381 _ _) 381 _ _ 381 (b + (85 + k)) = _
        rw [upm_k (by omega), upm_s]
      · show upm (upm V' 381 _ _) 381 _ _ 381 (b + (93 + k)) = _
        rw [upm_s]
  -- rows
  have wqB : ∀ r, r ≤ R → ∀ V' : Mem, (∀ c, c ≠ 381 → V' c = V c) → (∀ j, j < b ∨ b + 181 ≤ j → V' 381 j = V 381 j) → (∀ q, q < r → bk V' b q = V 375 (4 + 22 * q) ∧ ∀ p, p < (V 375 (4 + 22 * q)).toNat → bk V' b (4 + 20 * q + p) = V 375 (5 + 22 * q + p)) → Wf K (d + 1) mX12_starts 26 [some (vR 369), some (vI (b : Int)), some (vI (r : Int)), none] [] V' (fun r V' => r = none ∧ (∀ c, c ≠ 381 → V' c = V c) ∧ (∀ j, j < b ∨ b + 181 ≤ j → V' 381 j = V 381 j) ∧ StI (V 375) R BT (bk V' b)) := by
    refine up_ind ?_ ?_
    · intro V' g1 g2 g3
      refine sX12_starts_26 _ _ ⟨fun _ => ?_, fun c => absurd (by rw [g1 375 (by decide), h0]; exact Int.le_refl _) c⟩
      rw [ix4 hb, tn, g1 375 (by decide), h1]
      have o : ∀ i, i ≠ 84 → bk (upm V' 381 (b + 84) (BT : Int)) b i = bk V' b i := fun i q1 => by
        show upm V' 381 _ _ 381 (b + i) = V' 381 (b + i)
        rw [upm_k (by omega)]
      refine ⟨⟨by omega, by omega⟩, wqC _ (fun c q => by rw [upm_off c q]; exact g1 c q) (fun j q => by rw [upm_k (by omega)]; exact g2 j q) (fun r hr => ?_) ?_ 0 (Nat.zero_le _) _ (fun _ _ => rfl) (fun _ _ => rfl) (fun q hq => absurd hq (Nat.not_lt_zero q))⟩
      · have := hm r hr
        exact ⟨by rw [o _ (by omega)]; exact (g3 r hr).1, fun p hp => by rw [o _ (by omega)]; exact (g3 r hr).2 p hp⟩
      · show upm V' 381 _ _ 381 (b + 84) = _
        rw [upm_s]
    · intro r hr ih V' g1 g2 g3
      obtain ⟨m, hm1⟩ : ∃ m : Nat, V 375 (4 + 22 * r) = m := ⟨(V 375 (4 + 22 * r)).toNat, by have := hm r hr; omega⟩
      have hmr := hm r hr
      refine sX12_starts_26 _ _ ⟨fun c => absurd c (by rw [g1 375 (by decide), h0]; omega), fun _ => ?_⟩
      rw [js1 (show r < 4 by omega), ixad (show b + r < 5000 by omega), tn, tn, g1 375 (by decide), hm1]
      refine ⟨⟨by omega, by omega⟩, ⟨by omega, by omega⟩, ?_⟩
      have wqD : ∀ p, p ≤ m → ∀ V3 : Mem, (∀ c, c ≠ 381 → V3 c = V c) → (∀ j, j < b ∨ b + 181 ≤ j → V3 381 j = V 381 j) → (∀ q, q < r → bk V3 b q = V 375 (4 + 22 * q) ∧ ∀ p, p < (V 375 (4 + 22 * q)).toNat → bk V3 b (4 + 20 * q + p) = V 375 (5 + 22 * q + p)) → bk V3 b r = m → (∀ t, t < p → bk V3 b (4 + 20 * r + t) = V 375 (5 + 22 * r + t)) → Wf K (d + 1) mX12_starts 57 [some (vR 369), some (vI (b : Int)), some (vI (r : Int)), some (vI (p : Int))] [] V3 (fun r V' => r = none ∧ (∀ c, c ≠ 381 → V' c = V c) ∧ (∀ j, j < b ∨ b + 181 ≤ j → V' 381 j = V 381 j) ∧ StI (V 375) R BT (bk V' b)) := by
        refine up_ind ?_ ?_
        · intro V3 j1 j2 j3 j4 j5
          refine sX12_starts_57 _ _ _ ?_
          rw [ixad (show b + r < 5000 by omega), tn, show V3 381 (b + r) = bk V3 b r from rfl, j4, w32_s (i := r) (by omega)]
          refine ⟨⟨by omega, by omega⟩, fun _ => ih V3 j1 j2 (fun q hq => ?_), fun c => absurd (Int.le_refl _) c⟩
          by_cases c : q = r
          · rw [c, hm1]; exact ⟨j4, j5⟩
          · exact j3 q (by omega)
        · intro p hp ih2 V3 j1 j2 j3 j4 j5
          refine sX12_starts_57 _ _ _ ?_
          rw [ixad (show b + r < 5000 by omega), tn, show V3 381 (b + r) = bk V3 b r from rfl, j4, js2 (show r < 4 by omega) (show p ≤ 20 by omega), ixn hb (show r < 4 by omega) (show p ≤ 20 by omega), tn, tn, w32_s (i := p) (by omega), j1 375 (by decide)]
          have o : ∀ i, i ≠ 4 + 20 * r + p → bk (upm V3 381 (b + (4 + 20 * r + p)) (V 375 (5 + 22 * r + p))) b i = bk V3 b i := fun i hi => by
            show upm V3 381 _ _ 381 (b + i) = V3 381 (b + i)
            rw [upm_k (by omega)]
          refine ⟨⟨by omega, by omega⟩, fun c => by omega, fun _ => ⟨⟨by omega, by omega⟩, ⟨by omega, by omega⟩, ih2 _ (fun c q => (upm_off c q).trans (j1 c q)) (fun j q => by rw [upm_k (by omega)]; exact j2 j q) (fun q hq => ?_) (by rw [o _ (by omega)]; exact j4) (fun t ht => ?_)⟩⟩
          · have := hm q (by omega)
            exact ⟨by rw [o _ (by omega)]; exact (j3 q hq).1, fun t ht => by rw [o _ (by omega)]; exact (j3 q hq).2 t ht⟩
          · by_cases c : t = p
            · rw [c]
              show upm V3 381 _ _ 381 _ = _
              rw [upm_s]
            · rw [o _ (by omega)]; exact j5 t (by omega)
      have o : ∀ i, i ≠ r → bk (upm V' 381 (b + r) (m : Int)) b i = bk V' b i := fun i hi => by
        show upm V' 381 _ _ 381 (b + i) = V' 381 (b + i)
        rw [upm_k (by omega)]
      refine wqD 0 (Nat.zero_le _) _ (fun c q => by rw [upm_off c q]; exact g1 c q) (fun j q => by rw [upm_k (by omega)]; exact g2 j q) (fun q hq => ?_) ?_ (fun t ht => absurd ht (Nat.not_lt_zero t))
      · have := hm q (by omega)
        exact ⟨by rw [o _ (by omega)]; exact (g3 q hq).1, fun p hp => by rw [o _ (by omega)]; exact (g3 q hq).2 p hp⟩
      · show upm V' 381 _ _ 381 (b + r) = _
        rw [upm_s]
  have wqA : ∀ k : Nat, k ≤ 181 → ∀ V' : Mem, (∀ c, c ≠ 381 → V' c = V c) → (∀ j, j < b ∨ b + 181 ≤ j → V' 381 j = V 381 j) → Wf K (d + 1) mX12_starts 2 [some (vR 369), some (vI (b : Int)), some (vI (k : Int)), none] [] V' (fun r V' => r = none ∧ (∀ c, c ≠ 381 → V' c = V c) ∧ (∀ j, j < b ∨ b + 181 ≤ j → V' 381 j = V 381 j) ∧ StI (V 375) R BT (bk V' b)) := by
    refine up_ind ?_ ?_
    · intro V' g1 g2
      exact sX12_starts_2 _ _ ⟨fun _ => wqB 0 (Nat.zero_le _) V' g1 g2 (fun q hq => absurd hq (Nat.not_lt_zero q)), fun c => absurd (by decide) c⟩
    · intro k hk ih V' g1 g2
      refine sX12_starts_2 _ _ ⟨fun c => by omega, fun _ => ?_⟩
      rw [ixad (show b + k < 5000 by omega), tn, w32_s (i := k) (by omega)]
      exact ⟨⟨by omega, by omega⟩, ih _ (fun c q => (upm_off c q).trans (g1 c q)) (fun j q => by rw [upm_k (by omega)]; exact g2 j q)⟩
  exact wqA 0 (by omega) V (fun _ _ => rfl) (fun _ _ => rfl)
end STA
/-! a line -/
def canD (v w x : Int) (g : Nat → Int) : Prop := (v = 0 ∧ g w.toNat < 20) ∨ (v = 1 ∧ 1 < g w.toNat) ∨ v = 2 ∨ (v = 3 ∧ crC (fun s => g (101 + 10 * w.toNat + s)) (g (85 + w.toNat)).toNat x) ∨ (v = 4 ∧ g 84 < 8 ∧ g (85 + w.toNat) = g (85 + x.toNat))
def gDo (v w x : Int) (g : Nat → Int) : Nat → Int := if v = 0 then gApp w.toNat x g else if v = 1 then gCut w.toNat g else if v = 2 then gTrn w.toNat g else if v = 3 then gCrs w.toNat x g else gKep w.toNat x.toNat g
noncomputable def gNx (v w x : Int) (g : Nat → Int) : Nat → Int := @ite _ (canD v w x g) (Classical.propDecidable _) (gDo v w x g) g
theorem gNx_t {v w x : Int} {g : Nat → Int} (h : canD v w x g) : gNx v w x g = gDo v w x g := @if_pos _ (Classical.propDecidable _) h _ _ _
theorem gNx_f {v w x : Int} {g : Nat → Int} (h : ¬ canD v w x g) : gNx v w x g = g := @if_neg _ (Classical.propDecidable _) h _ _ _
def lnOK (R BT : Nat) (v w x : Int) : Prop := (v = 0 ∧ (0 ≤ w ∧ w < R) ∧ 0 ≤ x ∧ x ≤ 99) ∨ ((v = 1 ∨ v = 2) ∧ 0 ≤ w ∧ w < R) ∨ (v = 3 ∧ (0 ≤ w ∧ w < BT) ∧ 0 ≤ x ∧ x ≤ 8) ∨ (v = 4 ∧ (0 ≤ w ∧ w < BT) ∧ 0 ≤ x ∧ x < BT)
noncomputable def gSq (L : Nat → Int) (g0 : Nat → Int) : Nat → Nat → Int
  | 0 => g0
  | i + 1 => gNx (L (1 + 3 * i)) (L (2 + 3 * i)) (L (3 + 3 * i)) (gSq L g0 i)
noncomputable def fwS (L : Nat → Int) (g0 : Nat → Int) : Nat → Int
  | 0 => -1
  | i + 1 => @ite _ (fwS L g0 i = -1 ∧ ¬ canD (L (1 + 3 * i)) (L (2 + 3 * i)) (L (3 + 3 * i)) (gSq L g0 i)) (Classical.propDecidable _) (i : Int) (fwS L g0 i)
theorem fwS_t {L g0 : Nat → Int} {i : Nat} (h : fwS L g0 i = -1 ∧ ¬ canD (L (1 + 3 * i)) (L (2 + 3 * i)) (L (3 + 3 * i)) (gSq L g0 i)) : fwS L g0 (i + 1) = i := @if_pos _ (Classical.propDecidable _) h _ _ _
theorem fwS_f {L g0 : Nat → Int} {i : Nat} (h : ¬ (fwS L g0 i = -1 ∧ ¬ canD (L (1 + 3 * i)) (L (2 + 3 * i)) (L (3 + 3 * i)) (gSq L g0 i))) : fwS L g0 (i + 1) = fwS L g0 i := @if_neg _ (Classical.propDecidable _) h _ _ _
theorem fwS_r {L g0 : Nat → Int} : ∀ i, fwS L g0 i = -1 ∨ 0 ≤ fwS L g0 i
  | 0 => Or.inl rfl
  | i + 1 => by
    by_cases c : fwS L g0 i = -1 ∧ ¬ canD (L (1 + 3 * i)) (L (2 + 3 * i)) (L (3 + 3 * i)) (gSq L g0 i)
    · rw [fwS_t c]; exact Or.inr (by omega)
    · rw [fwS_f c]; exact fwS_r i
