/-! ===== the reference does a deed on a block ===== -/
abbrev bk (V : Mem) (b : Nat) (i : Nat) : Int := V 381 (b + i)
theorem bk0 (V : Mem) : bk V 0 = V 381 := funext fun i => by show V 381 (0 + i) = _; rw [Nat.zero_add]
def FrD (V V' : Mem) (b : Nat) : Prop := (∀ c, ¬ MSc c → c ≠ 381 → V' c = V c) ∧ ∀ j, j < b ∨ b + 181 ≤ j → V' 381 j = V 381 j
theorem ixn {b w p : Nat} (hb : b ≤ 4326) (hw : w < 4) (hp : p ≤ 20) : w32 (w32 (w32 ((b : Int) + 4) + w32 (20 * (w : Int))) + (p : Int)) = ((b + (4 + 20 * w + p) : Nat) : Int) := by
  rw [w32_id (x := (b : Int) + 4) (by omega) (by omega), w32_id (x := 20 * (w : Int)) (by omega) (by omega), w32_id (x := (b : Int) + 4 + 20 * (w : Int)) (by omega) (by omega), w32_id (by omega) (by omega)]; omega
theorem ixe {b k s : Nat} (hb : b ≤ 4326) (hk : k < 8) (hs : s < 10) : w32 (w32 (w32 ((b : Int) + 101) + w32 (10 * (k : Int))) + (s : Int)) = ((b + (101 + 10 * k + s) : Nat) : Int) := by
  rw [ib101 hb hk hs]; omega
theorem ix5 {b k : Nat} (hb : b ≤ 4326) (hk : k < 8) : w32 (w32 ((b : Int) + 85) + (k : Int)) = ((b + (85 + k) : Nat) : Int) := by rw [ib85 hb hk]; omega
theorem ix4 {b : Nat} (hb : b ≤ 4326) : w32 ((b : Int) + 84) = ((b + 84 : Nat) : Int) := by rw [w32_id (by omega) (by omega)]; omega
theorem ixm {m i : Nat} (h : i < m) (hm : m ≤ 20) : w32 (w32 ((m : Int) - 1) - (i : Int)) = ((m - 1 - i : Nat) : Int) := by rw [w32_id (x := (m : Int) - 1) (by omega) (by omega), w32_id (by omega) (by omega)]; omega
theorem ixh {m : Nat} (hm : m ≤ 20) : w32 (Int.tdiv (m : Int) 2) = ((m / 2 : Nat) : Int) := by rw [Int.tdiv_eq_ediv_of_nonneg (by omega), w32_id (by omega) (by omega)]; omega
section MDO
variable {K : KK} {d : Nat} {V : Mem} {b : Nat}
theorem m_strandAt {k n v : Nat} (hb : b ≤ 4326) (hk : k < 8) (h10 : n ≤ 10) (hp : PermOK (fun s => bk V b (101 + 10 * k + s)) n) (hv : v < n) : Mi K d mX12_strandAt [vR 369, vI (b : Int), vI (k : Int), vI (v : Int)] V (fun z V' => V' = V ∧ ∃ s : Nat, z = s ∧ s < n ∧ bk V b (101 + 10 * k + s) = v) := by
  refine sX12_strandAt _ _ _ ?_
  obtain ⟨s0, q1, q2⟩ := hp.2.2 v hv
  have wqA : ∀ s, s ≤ s0 → Wf K d mX12_strandAt 3 [some (vR 369), some (vI (b : Int)), some (vI (k : Int)), some (vI (v : Int)), some (vI (s : Int))] [] V (fun r V' => ∃ z, r = some (vI z) ∧ V' = V ∧ ∃ s : Nat, z = s ∧ s < n ∧ bk V b (101 + 10 * k + s) = v) := by
    refine up_ind ?_ ?_
    · refine sX12_strandAt_3 _ _ _ _ ?_
      rw [ixe hb hk (show s0 < 10 by omega), tn]
      exact ⟨⟨by omega, by omega⟩, fun _ => ⟨_, rfl, rfl, s0, rfl, q1, q2⟩, fun c => absurd q2 c⟩
    · intro s hs ih
      refine sX12_strandAt_3 _ _ _ _ ?_
      rw [ixe hb hk (show s < 10 by omega), tn, w32_s (i := s) (by omega)]
      exact ⟨⟨by omega, by omega⟩, fun c => ⟨_, rfl, rfl, s, rfl, by omega, c⟩, fun _ => ih⟩
  exact wqA 0 (Nat.zero_le _)
theorem m_may0 {y x : Int} {w : Nat} (hy : y = 0) (hb : b ≤ 4326) (hw : w < 4) : Pu K (d + 1) mX12_mayDo [vR 369, vI (b : Int), vI y, vI (w : Int), vI x] V (if bk V b w < 20 then 1 else 0) := by
  subst hy
  refine sX12_mayDo _ _ _ _ ⟨fun _ => ?_, fun c => absurd c (by decide), fun c => absurd c (by decide), fun c => absurd c (by decide), fun c => by omega⟩
  rw [ixad (show b + w < 5000 by omega), tn, show V 381 (b + w) = bk V b w from rfl]
  exact ⟨⟨by omega, by omega⟩, fun c => ⟨_, rfl, by rw [if_neg (by omega)], rfl⟩, fun c => ⟨_, rfl, by rw [if_pos (by omega)], rfl⟩⟩
theorem m_may1 {y x : Int} {w : Nat} (hy : y = 1) (hb : b ≤ 4326) (hw : w < 4) : Pu K (d + 1) mX12_mayDo [vR 369, vI (b : Int), vI y, vI (w : Int), vI x] V (if 1 < bk V b w then 1 else 0) := by
  subst hy
  refine sX12_mayDo _ _ _ _ ⟨fun c => absurd c (by decide), fun _ => ?_, fun c => absurd c (by decide), fun c => absurd c (by decide), fun c => by omega⟩
  rw [ixad (show b + w < 5000 by omega), tn, show V 381 (b + w) = bk V b w from rfl]
  exact ⟨⟨by omega, by omega⟩, fun c => ⟨_, rfl, by rw [if_neg (by omega)], rfl⟩, fun c => ⟨_, rfl, by rw [if_pos (by omega)], rfl⟩⟩
theorem m_may2 {y w x : Int} (hy : y = 2) : Pu K (d + 1) mX12_mayDo [vR 369, vI (b : Int), vI y, vI w, vI x] V 1 := by
  subst hy
  exact sX12_mayDo _ _ _ _ ⟨fun c => absurd c (by decide), fun c => absurd c (by decide), fun _ => ⟨_, rfl, rfl, rfl⟩, fun c => absurd c (by decide), fun c => by omega⟩
theorem m_may3 {y x : Int} {k n : Nat} (hy : y = 3) (hb : b ≤ 4326) (hk : k < 8) (hn : bk V b (85 + k) = n) (h1 : 1 ≤ n) (h10 : n ≤ 10) (hp : PermOK (fun s => bk V b (101 + 10 * k + s)) n) (hx : 0 ≤ x) : Mi K (d + 1) mX12_mayDo [vR 369, vI (b : Int), vI y, vI (k : Int), vI x] V (fun z V' => V' = V ∧ ((crC (fun s => bk V b (101 + 10 * k + s)) n x ∧ z = 1) ∨ (¬ crC (fun s => bk V b (101 + 10 * k + s)) n x ∧ z = 0))) := by
  subst hy
  refine sX12_mayDo _ _ _ _ ⟨fun c => absurd c (by decide), fun c => absurd c (by decide), fun c => absurd c (by decide), fun _ => ?_, fun c => by omega⟩
  have hn' : V 381 (b + (85 + k)) = n := hn
  rw [ix5 hb hk, tn, hn', w32_id (x := (n : Int) - 1) (by omega) (by omega)]
  refine ⟨⟨by omega, by omega⟩, fun c => ⟨_, rfl, rfl, Or.inr ⟨fun q => by have := q.1; omega, rfl⟩⟩, fun c => ?_⟩
  obtain ⟨v, rfl⟩ : ∃ v : Nat, x = v := ⟨x.toNat, by omega⟩
  rw [w32_s (i := v) (by omega)]
  refine (m_strandAt (d := d) hb hk h10 hp (by omega)).use (fun z1 V1 ⟨e1, s, es, s1, s2⟩ => ?_)
  subst e1
  refine (m_strandAt (d := d) hb hk h10 hp (show v + 1 < n by omega)).use (fun z2 V2 ⟨e2, t, et, t1, t2⟩ => ?_)
  subst e2
  refine ⟨fun c2 => ⟨_, rfl, rfl, Or.inr ⟨?_, rfl⟩⟩, fun c2 => ⟨_, rfl, rfl, Or.inl ⟨⟨by omega, s, t, by omega, t1, s2, t2.trans (show ((v + 1 : Nat) : Int) = (v : Int) + 1 by omega)⟩, rfl⟩⟩⟩
  rintro ⟨-, u, w, k2, k3, k4, k5⟩
  have := hp.2.1 s u s1 (by omega) (s2.trans k4.symm)
  have := hp.2.1 t w t1 (by omega) (t2.trans (by rw [k5]; omega))
  omega
theorem m_may4 {y : Int} {x z : Nat} (hy : y = 4) (hb : b ≤ 4326) (hx : x < 8) (hz : z < 8) : Pu K (d + 1) mX12_mayDo [vR 369, vI (b : Int), vI y, vI (x : Int), vI (z : Int)] V (if bk V b 84 < 8 ∧ bk V b (85 + x) = bk V b (85 + z) then 1 else 0) := by
  subst hy
  refine sX12_mayDo _ _ _ _ ⟨fun c => absurd c (by decide), fun c => absurd c (by decide), fun c => absurd c (by decide), fun c => absurd c (by decide), fun _ => ?_⟩
  rw [ix4 hb, ix5 hb hx, ix5 hb hz, tn, tn, tn, show V 381 (b + 84) = bk V b 84 from rfl]
  exact ⟨⟨by omega, by omega⟩, fun c => ⟨_, rfl, by rw [if_neg (fun q => by have := q.1; omega)], rfl⟩, fun c => ⟨⟨by omega, by omega⟩, ⟨by omega, by omega⟩, fun c2 => ⟨_, rfl, by rw [if_neg (fun q => c2 q.2)], rfl⟩, fun c2 => ⟨_, rfl, by rw [if_pos ⟨by omega, c2⟩], rfl⟩⟩⟩
theorem m_do0 {y x : Int} {w m : Nat} (hy : y = 0) (hb : b ≤ 4326) (hw : w < 4) (hm : bk V b w = m) (h20 : m < 20) : Mv K (d + 1) mX12_does [vR 369, vI (b : Int), vI y, vI (w : Int), vI x] V (fun V' => FrD V V' b ∧ Lapp w x (bk V b) (bk V' b)) := by
  subst hy
  refine sX12_does _ _ _ _ ⟨fun c => absurd rfl c, fun _ => ?_⟩
  have hm' : V 381 (b + w) = m := hm
  rw [ixad (show b + w < 5000 by omega), tn, hm', ixn hb hw (show m ≤ 20 by omega), tn, upm_k (show b + w ≠ b + (4 + 20 * w + m) by omega), hm', w32_s (i := m) (by omega)]
  refine ⟨⟨by omega, by omega⟩, ⟨by omega, by omega⟩, ⟨by omega, by omega⟩, ⟨by omega, by omega⟩, rfl, ⟨fun c _ q => by rw [upm_off c q, upm_off c q], fun j q => by rw [upm_k (by omega), upm_k (by omega)]⟩, ?_, ?_, fun i q1 q2 q3 => ?_⟩
  · show upm _ 381 (b + w) _ 381 (b + w) = V 381 (b + w) + 1
    rw [upm_s, hm']; omega
  · rw [hm, tn]
    show upm _ 381 (b + w) _ 381 (b + (4 + 20 * w + m)) = x
    rw [upm_k (by omega), upm_s]
  · rw [hm, tn] at q3
    show upm _ 381 (b + w) _ 381 (b + i) = V 381 (b + i)
    rw [upm_k (by omega), upm_k (by omega)]
theorem m_do1 {y x : Int} {w m : Nat} (hy : y = 1) (hb : b ≤ 4326) (hw : w < 4) (hm : bk V b w = m) (h1 : 1 ≤ m) (h20 : m ≤ 20) : Mv K (d + 1) mX12_does [vR 369, vI (b : Int), vI y, vI (w : Int), vI x] V (fun V' => FrD V V' b ∧ Lcut w (bk V b) (bk V' b) ∧ ∀ i, i ≠ w → bk V' b i = bk V b i) := by
  subst hy
  have hm' : V 381 (b + w) = m := hm
  refine sX12_does _ _ _ _ ⟨fun _ => ⟨fun c => absurd rfl c, fun _ => ?_⟩, fun c => absurd c (by decide)⟩
  rw [ixad (show b + w < 5000 by omega), tn, hm', w32_id (x := (m : Int) - 1) (by omega) (by omega)]
  have ot : ∀ i, i ≠ w → bk (upm V 381 (b + w) ((m : Int) - 1)) b i = bk V b i := fun i q => by
    show upm V 381 (b + w) _ 381 (b + i) = V 381 (b + i)
    rw [upm_k (by omega)]
  refine ⟨⟨by omega, by omega⟩, ⟨by omega, by omega⟩, rfl, ⟨fun c _ q => by rw [upm_off c q], fun j q => by rw [upm_k (by omega)]⟩, ⟨?_, fun i q1 q2 q3 => ot i q2⟩, ot⟩
  show upm _ 381 (b + w) _ 381 (b + w) = V 381 (b + w) - 1
  rw [upm_s, hm']
theorem m_do2 {y x : Int} {w m : Nat} (hy : y = 2) (hb : b ≤ 4326) (hw : w < 4) (hm : bk V b w = m) (h20 : m ≤ 20) : Mv K (d + 1) mX12_does [vR 369, vI (b : Int), vI y, vI (w : Int), vI x] V (fun V' => FrD V V' b ∧ Ltrn w (bk V b) (bk V' b)) := by
  subst hy
  have hm' : V 381 (b + w) = m := hm
  refine sX12_does _ _ _ _ ⟨fun _ => ⟨fun _ => ⟨fun c => absurd rfl c, fun _ => ?_⟩, fun c => absurd c (by decide)⟩, fun c => absurd c (by decide)⟩
  rw [ixad (show b + w < 5000 by omega), tn, hm']
  refine ⟨⟨by omega, by omega⟩, ?_⟩
  have wqA : ∀ i, i ≤ m / 2 → ∀ V' : Mem, (∀ c, c ≠ 381 → V' c = V c) → (∀ j, j < b + (4 + 20 * w) ∨ b + (4 + 20 * w) + m ≤ j → V' 381 j = V 381 j) → (∀ p, p < m → V' 381 (b + (4 + 20 * w + p)) = if p < i ∨ m - i ≤ p then V 381 (b + (4 + 20 * w + (m - 1 - p))) else V 381 (b + (4 + 20 * w + p))) → Wf K (d + 1) mX12_does 73 [some (vR 369), some (vI (b : Int)), none, some (vI (w : Int)), none, some (vI (m : Int)), some (vI (i : Int)), none] [] V' (fun r V' => r = none ∧ FrD V V' b ∧ Ltrn w (bk V b) (bk V' b)) := by
    refine up_ind ?_ ?_
    · intro V' g1 g2 g3
      refine sX12_does_73 _ _ _ _ ?_
      rw [ixh h20]
      refine ⟨fun _ => ⟨rfl, ⟨fun c _ q => g1 c q, fun j q => g2 j (by omega)⟩, ?_, fun p hp => ?_, fun i q1 q2 => ?_⟩, fun c => absurd (Int.le_refl _) c⟩
      · exact g2 _ (by omega)
      · rw [hm, tn] at hp ⊢
        show V' 381 (b + (4 + 20 * w + p)) = V 381 (b + (4 + 20 * w + (m - 1 - p)))
        rw [g3 p hp]
        by_cases c : p < m / 2 ∨ m - m / 2 ≤ p
        · rw [if_pos c]
        · rw [if_neg c, show m - 1 - p = p by omega]
      · rw [hm, tn] at q2
        exact g2 _ (by omega)
    · intro i hi ih V' g1 g2 g3
      refine sX12_does_73 _ _ _ _ ?_
      rw [ixh h20, ixm (show i < m by omega) h20, ixn hb hw (show i ≤ 20 by omega), ixn hb hw (show m - 1 - i ≤ 20 by omega), tn, tn, w32_s (i := i) (by omega)]
      refine ⟨fun c => by omega, fun _ => ⟨⟨by omega, by omega⟩, ⟨by omega, by omega⟩, ⟨by omega, by omega⟩, ⟨by omega, by omega⟩, ih _ (fun c q => by rw [upm_off c q, upm_off c q]; exact g1 c q) (fun j q => by rw [upm_k (by omega), upm_k (by omega)]; exact g2 j q) (fun p hp => ?_)⟩⟩
      have e3 := g3 i (by omega)
      have e4 := g3 (m - 1 - i) (by omega)
      rw [if_neg (by omega)] at e3 e4
      by_cases c1 : p = m - 1 - i
      · rw [c1, upm_s, e3, if_pos (by omega), show m - 1 - (m - 1 - i) = i by omega]
      · rw [upm_k (by omega)]
        by_cases c2 : p = i
        · rw [c2, upm_s, e4, if_pos (by omega)]
        · rw [upm_k (by omega), g3 p hp]
          by_cases c3 : p < i ∨ m - i ≤ p
          · rw [if_pos c3, if_pos (by omega)]
          · rw [if_neg c3, if_neg (by omega)]
  exact wqA 0 (Nat.zero_le _) V (fun _ _ => rfl) (fun _ _ => rfl) (fun p hp => by rw [if_neg (by omega)])
theorem m_do3 {y : Int} {k n x : Nat} (hy : y = 3) (hb : b ≤ 4326) (hk : k < 8) (hn : bk V b (85 + k) = n) (h10 : n ≤ 10) (hp : PermOK (fun s => bk V b (101 + 10 * k + s)) n) (hx : x + 1 < n) : Mv K (d + 1) mX12_does [vR 369, vI (b : Int), vI y, vI (k : Int), vI (x : Int)] V (fun V' => FrD V V' b ∧ Lcrs k x (bk V b) (bk V' b)) := by
  subst hy
  refine sX12_does _ _ _ _ ⟨fun _ => ⟨fun _ => ⟨fun _ => ⟨fun c => absurd rfl c, fun _ => ?_⟩, fun c => absurd c (by decide)⟩, fun c => absurd c (by decide)⟩, fun c => absurd c (by decide)⟩
  refine (m_strandAt (d := d) hb hk h10 hp (show x < n by omega)).use (fun z1 V1 ⟨e1, s, es, s1, s2⟩ => ?_)
  subst e1
  rw [w32_s (i := x) (by omega)]
  refine (m_strandAt (d := d) hb hk h10 hp hx).use (fun z2 V2 ⟨e2, t, et, t1, t2⟩ => ?_)
  subst e2
  subst es
  subst et
  rw [ixe hb hk (show s < 10 by omega), ixe hb hk (show t < 10 by omega), tn, tn]
  refine ⟨⟨by omega, by omega⟩, ⟨by omega, by omega⟩, rfl, ⟨fun c _ q => by rw [upm_off c q, upm_off c q], fun j q => by rw [upm_k (by omega), upm_k (by omega)]⟩, fun u hu => ?_, fun i q1 q2 => ?_⟩
  · rw [hn, tn] at hu
    show upm _ 381 (b + (101 + 10 * k + t)) _ 381 (b + (101 + 10 * k + u)) = swv x (bk V2 b (101 + 10 * k + u))
    unfold swv
    by_cases c1 : u = t
    · rw [c1, upm_s, t2, if_neg (by omega), if_pos (by omega)]
    · rw [upm_k (by omega)]
      by_cases c2 : u = s
      · rw [c2, upm_s, s2, if_pos rfl]; omega
      · rw [upm_k (by omega), if_neg (fun q => c2 (hp.2.1 u s hu s1 (q.trans s2.symm))), if_neg (fun q => c1 (hp.2.1 u t hu t1 (q.trans (t2.trans (show ((x + 1 : Nat) : Int) = (x : Int) + 1 by omega)).symm)))]
  · rw [hn, tn] at q2
    show upm _ 381 (b + (101 + 10 * k + t)) _ 381 (b + i) = V2 381 (b + i)
    rw [upm_k (by omega), upm_k (by omega)]
theorem m_do4 {y : Int} {x z n B : Nat} (hy : y = 4) (hb : b ≤ 4326) (hx : x < 8) (hz : z < 8) (hB : bk V b 84 = B) (hB8 : B < 8) (hn : bk V b (85 + x) = n) (hn2 : bk V b (85 + z) = n) (h10 : n ≤ 10) (hp : PermOK (fun s => bk V b (101 + 10 * x + s)) n) (hp2 : PermOK (fun s => bk V b (101 + 10 * z + s)) n) : Mv K (d + 3) mX12_does [vR 369, vI (b : Int), vI y, vI (x : Int), vI (z : Int)] V (fun V' => FrD V V' b ∧ Lkep x z (bk V b) (bk V' b) ∧ ∀ i, 93 ≤ i → i < 101 → bk V' b i = bk V b i) := by
  subst hy
  refine sX12_does _ _ _ _ ⟨fun _ => ⟨fun _ => ⟨fun _ => ⟨fun _ => ?_, fun c => absurd c (by decide)⟩, fun c => absurd c (by decide)⟩, fun c => absurd c (by decide)⟩, fun c => absurd c (by decide)⟩
  refine (m_laysBraid (d := d + 2) (b := b) (k := x) (a := 394) (n := n) sh394 (by decide) hb hx (by rw [show b + 85 + x = b + (85 + x) by omega]; exact hn) h10).use (fun V1 ⟨k1, k2⟩ => ?_)
  refine (m_laysBraid (d := d + 2) (V := V1) (b := b) (k := z) (a := 395) (n := n) sh395 (by decide) hb hz (by rw [k1 381 (by decide), show b + 85 + z = b + (85 + z) by omega]; exact hn2) h10).use (fun V2 ⟨j1, j2⟩ => ?_)
  have e381 : V2 381 = V 381 := by rw [j1 381 (by decide), k1 381 (by decide)]
  have q1 : ∀ s, s < n → V2 394 s = bk V b (101 + 10 * x + s) := fun s hs => by
    rw [j1 394 (by decide), k2 s hs]
    show _ = V 381 (b + (101 + 10 * x + s))
    rw [show b + 101 + 10 * x + s = b + (101 + 10 * x + s) by omega]
  have q2 : ∀ s, s < n → V2 395 s = bk V b (101 + 10 * z + s) := fun s hs => by
    rw [j2 s hs, k1 381 (by decide)]
    show _ = V 381 (b + (101 + 10 * z + s))
    rw [show b + 101 + 10 * z + s = b + (101 + 10 * z + s) by omega]
  have hn' : V 381 (b + (85 + x)) = n := hn
  have hB' : V 381 (b + 84) = B := hB
  rw [ix5 hb hx, tn, e381, hn']
  refine ⟨⟨by omega, by omega⟩, (m_composes (d := d) (V := V2) h10 rfl rfl (hp.congr q1) (hp2.congr q2)).use (fun V3 ⟨u1, u2⟩ => ?_)⟩
  have e3 : V3 381 = V 381 := by rw [u1 381 (by decide) (by decide) (by decide) (by decide), e381]
  have fr : ∀ c, ¬ MSc c → c ≠ 381 → V3 c = V c := fun c w1 w2 => by rw [u1 c (by omega) (by omega) (by omega) (by omega), j1 c (by omega), k1 c (by omega)]
  have u3 : ∀ s, s < n → V3 396 s = cmp n (fun s => bk V b (101 + 10 * x + s)) (fun s => bk V b (101 + 10 * z + s)) s := fun s hs => by
    rw [u2 s hs]
    exact cmp_congr q1 q2 hs
  rw [ix4 hb, tn, e3, hB', ix5 hb (show B < 8 by omega), tn]
  refine ⟨⟨by omega, by omega⟩, ⟨by omega, by omega⟩, ?_⟩
  have wqA : ∀ s, s ≤ n → ∀ V' : Mem, (∀ c, ¬ MSc c → c ≠ 381 → V' c = V c) → V' 396 = V3 396 → V' 381 (b + (85 + B)) = n → (∀ j, j ≠ b + (85 + B) → j < b + (101 + 10 * B) ∨ b + (111 + 10 * B) ≤ j → V' 381 j = V 381 j) → (∀ t, t < s → V' 381 (b + (101 + 10 * B + t)) = cmp n (fun s => bk V b (101 + 10 * x + s)) (fun s => bk V b (101 + 10 * z + s)) t) → Wf K (d + 3) mX12_does 291 [some (vR 369), some (vI (b : Int)), none, none, none, some (vI (n : Int)), some (vI (B : Int)), some (vI (s : Int))] [] V' (fun r V' => r = none ∧ FrD V V' b ∧ Lkep x z (bk V b) (bk V' b) ∧ ∀ i, 93 ≤ i → i < 101 → bk V' b i = bk V b i) := by
    refine up_ind ?_ ?_
    · intro V' g1 g2 g3 g4 g5
      refine sX12_does_291 _ _ _ _ ⟨fun _ => ?_, fun c => absurd (Int.le_refl _) c⟩
      rw [ix4 hb, tn, g4 _ (by omega) (by omega), hB', w32_s (i := B) (by omega)]
      refine ⟨⟨by omega, by omega⟩, ⟨by omega, by omega⟩, rfl, ⟨fun c w1 w2 => by rw [upm_off c w2]; exact g1 c w1 w2, fun j w => by rw [upm_k (by omega)]; exact g4 j (by omega) (by omega)⟩, ⟨?_, ?_, fun s hs => ?_, fun i w1 w2 w3 w4 w5 => ?_⟩, fun i w1 w2 => ?_⟩
      · show upm _ 381 (b + 84) _ 381 (b + 84) = V 381 (b + 84) + 1
        rw [upm_s, hB']; omega
      · rw [hB, tn]
        show upm _ 381 (b + 84) _ 381 (b + (85 + B)) = V 381 (b + (85 + x))
        rw [upm_k (by omega), g3, hn']
      · rw [hn, tn] at hs
        rw [hB, tn, hn, tn]
        show upm _ 381 (b + 84) _ 381 (b + (101 + 10 * B + s)) = _
        rw [upm_k (by omega)]
        exact g5 s hs
      · rw [hB, tn] at w3 w4 w5
        show upm _ 381 (b + 84) _ 381 (b + i) = V 381 (b + i)
        rw [upm_k (by omega)]
        exact g4 _ (by omega) (by omega)
      · show upm _ 381 (b + 84) _ 381 (b + i) = V 381 (b + i)
        rw [upm_k (by omega)]
        exact g4 _ (by omega) (by omega)
    · intro s hs ih V' g1 g2 g3 g4 g5
      refine sX12_does_291 _ _ _ _ ⟨fun c => by omega, fun _ => ?_⟩
      rw [ixe hb (show B < 8 by omega) (show s < 10 by omega), tn, tn, g2, u3 s hs, w32_s (i := s) (by omega)]
      refine ⟨⟨by omega, by omega⟩, ⟨by omega, by omega⟩, ih _ (fun c w1 w2 => by rw [upm_off c w2]; exact g1 c w1 w2) (by rw [upm_off 396 (by decide)]; exact g2) (by rw [upm_k (by omega)]; exact g3) (fun j w1 w2 => by rw [upm_k (by omega)]; exact g4 j w1 w2) (fun t ht => ?_)⟩
      by_cases c : t = s
      · rw [c, upm_s]
      · rw [upm_k (by omega)]; exact g5 t (by omega)
  refine wqA 0 (Nat.zero_le _) _ (fun c w1 w2 => by rw [upm_off c w2]; exact fr c w1 w2) (upm_off 396 (by decide)) (upm_s _ _ _ _) (fun j w1 w2 => by rw [upm_k (by omega), e3]) (fun t ht => absurd ht (Nat.not_lt_zero t))
end MDO
