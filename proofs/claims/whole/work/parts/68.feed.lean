/-! ===== feed: both sides with the coupling ===== -/
def byt (j : Int) (k : Nat) : Int := b_iand (w32 (b_lushr j (k : Int))) 255
theorem fd_cu : ∀ k, k < 64 → ((Int32.ofInt ((k : Nat) : Int)).toInt64.toUInt64 &&& Int64.toUInt64 63).toNat = k := by decide +kernel
theorem fd_cs : ∀ k, k < 64 → (((Int32.ofInt ((k : Nat) : Int)).toInt64 &&& 63).toBitVec.smod 64).toNat = k := by decide +kernel
theorem fd_255 : ∀ i < 32, 8 ≤ i → (Int32.ofInt 255).toBitVec.getLsbD i = false := by decide
theorem fd_and {x y : Int32} (h : ∀ i, i < 8 → x.toBitVec.getLsbD i = y.toBitVec.getLsbD i) : x &&& Int32.ofInt 255 = y &&& Int32.ofInt 255 := by
  apply Int32.toBitVec_inj.mp
  rw [Int32.toBitVec_and, Int32.toBitVec_and]
  apply BitVec.eq_of_getLsbD_eq
  intro i hi
  rw [BitVec.getLsbD_and, BitVec.getLsbD_and]
  rcases Nat.lt_or_ge i 8 with z | z
  · rw [h i z]
  · rw [fd_255 i hi z, Bool.and_false, Bool.and_false]
theorem byt_s (j : Int) {k : Nat} (hk : k ≤ 56) : b_iand (w32 (b_lshr j (k : Int))) 255 = byt j k := by
  unfold byt b_iand
  rw [i32_w, i32_w]
  refine congrArg _ (fd_and (fun i hi => ?_))
  unfold b_lshr b_lushr
  rw [Int32.ofInt_int64ToInt, Int32.ofInt_int64ToInt, Int64.toBitVec_toInt32, Int64.toBitVec_toInt32, BitVec.getLsbD_signExtend, BitVec.getLsbD_signExtend, if_pos (by omega), if_pos (by omega)]
  refine congrArg _ ?_
  generalize Int64.ofInt j = w
  have e : ((w.toUInt64 >>> ((Int32.ofInt ((k : Nat) : Int)).toInt64.toUInt64 &&& Int64.toUInt64 63)).toInt64).toBitVec = w.toBitVec >>> k := by
    apply BitVec.eq_of_toNat_eq
    show (w.toUInt64 >>> ((Int32.ofInt ((k : Nat) : Int)).toInt64.toUInt64 &&& Int64.toUInt64 63)).toNat = _
    rw [UInt64.toNat_shiftRight, fd_cu k (by omega), Nat.mod_eq_of_lt (by omega), BitVec.toNat_ushiftRight]
    rfl
  rw [e, BitVec.getLsbD_ushiftRight, Int64.toBitVec_shiftRight]
  show (w.toBitVec.sshiftRight (((Int32.ofInt ((k : Nat) : Int)).toInt64 &&& 63).toBitVec.smod 64).toNat).getLsbD i = _
  rw [fd_cs k (by omega), BitVec.getLsbD_sshiftRight, if_pos (by omega)]
  simp
  omega
theorem byt_r (j : Int) (k : Nat) : 0 ≤ byt j k ∧ byt j k ≤ 255 := by
  unfold byt b_iand
  generalize Int32.ofInt (w32 (b_lushr j (k : Int))) = x
  have h : (x &&& Int32.ofInt 255).toBitVec.toNat ≤ 255 := by
    rw [Int32.toBitVec_and, BitVec.toNat_and]
    exact Nat.and_le_right
  have e : (x &&& Int32.ofInt 255).toInt = ((x &&& Int32.ofInt 255).toBitVec.toNat : Int) := BitVec.toInt_eq_toNat_of_lt (by omega)
  rw [e]
  omega
theorem i2c_n : ∀ n : Nat, n < 256 → b_i2c (n : Int) = n := by decide +kernel
theorem i2c_b {x : Int} (h : 0 ≤ x ∧ x ≤ 255) : b_i2c x = x := by
  obtain ⟨n, rfl⟩ : ∃ n : Nat, x = n := ⟨x.toNat, by omega⟩
  exact i2c_n n (by omega)
abbrev chC (c : Int) : Prop := c = 10 ∨ (32 ≤ c ∧ c ≤ 126)
def tpS (c : Int) (s : Nat × (Nat → Int)) : Nat × (Nat → Int) := if chC c ∧ s.1 < 1000 then (s.1 + 1, fun i => if i = s.1 then c else s.2 i) else s
def tpR (j : Int) : Nat → Nat × (Nat → Int) → Nat × (Nat → Int)
  | 0, s => s
  | m + 1, s => tpR j m (tpS (byt j (8 * m)) s)
def tpK (s : Nat × (Nat → Int)) : Prop := s.1 ≤ 1000 ∧ ∀ i, i < s.1 → chC (s.2 i)
theorem tpS_k {c : Int} {s : Nat × (Nat → Int)} (h : tpK s) : tpK (tpS c s) := by
  unfold tpS
  by_cases q : chC c ∧ s.1 < 1000
  · rw [if_pos q]
    refine ⟨by show s.1 + 1 ≤ 1000; omega, fun i hi => ?_⟩
    show chC (if i = s.1 then c else s.2 i)
    by_cases e : i = s.1
    · rw [if_pos e]; exact q.1
    · rw [if_neg e]; exact h.2 i (by have : i < s.1 + 1 := hi; omega)
  · rw [if_neg q]; exact h
theorem tpR_k {j : Int} : ∀ m s, tpK s → tpK (tpR j m s)
  | 0, _, h => h
  | m + 1, s, h => tpR_k m _ (tpS_k h)
section FED
variable {K : KK} {d : Nat} {V : Mem}
def TpX (V : Mem) (s : Nat × (Nat → Int)) : Prop := V 1 2 = s.1 ∧ ∀ i, i < s.1 → V 2 i = s.2 i
def TpM (V : Mem) (s : Nat × (Nat → Int)) : Prop := V 369 2 = s.1 ∧ ∀ i, i < s.1 → V 370 i = s.2 i
theorem c_put (j : Int) {s : Nat × (Nat → Int)} (hs : TpX V s) (hk : tpK s) : Mv K d mX9_put [vR 1, vJ j] V (fun V' => (∀ c, c ≠ 1 → c ≠ 2 → V' c = V c) ∧ (∀ q, q ≠ 2 → V' 1 q = V 1 q) ∧ TpX V' (tpR j 8 s)) := by
  refine sX9_put j ?_
  have wqA : ∀ m : Nat, m ≤ 8 → ∀ (t : Nat × (Nat → Int)) (V' : Mem), (∀ c, c ≠ 1 → c ≠ 2 → V' c = V c) → (∀ q, q ≠ 2 → V' 1 q = V 1 q) → TpX V' t → tpK t → tpR j m t = tpR j 8 s → Wf K d mX9_put 3 [some (vR 1), some (vJ j), none, some (vI (8 * (m : Int) - 8)), none, none] [] V' (fun r V' => r = none ∧ (∀ c, c ≠ 1 → c ≠ 2 → V' c = V c) ∧ (∀ q, q ≠ 2 → V' 1 q = V 1 q) ∧ TpX V' (tpR j 8 s)) := by
    intro m
    induction m with
    | zero =>
      intro _ t V' g1 g2 g3 g4 g5
      exact sX9_put_3 _ _ ⟨fun _ => ⟨rfl, g1, g2, by rw [← g5]; exact g3⟩, fun c => absurd (by decide) c⟩
    | succ m ih =>
      intro hm t V' g1 g2 g3 g4 g5
      have e0 : 8 * ((m + 1 : Nat) : Int) - 8 = ((8 * m : Nat) : Int) := by omega
      have e1 : w32 (((8 * m : Nat) : Int) + (-8)) = 8 * (m : Int) - 8 := by rw [w32_id (by omega) (by omega)]; omega
      rw [e0]
      refine sX9_put_3 _ _ ?_
      rw [e1]
      clear e0 e1
      have hb := byt_r j (8 * m)
      rw [show b_iand (w32 (b_lushr j ((8 * m : Nat) : Int))) 255 = byt j (8 * m) from rfl]
      rw [i2c_b hb]
      have g5' : tpR j m (tpS (byt j (8 * m)) t) = tpR j 8 s := g5
      generalize byt j (8 * m) = c at *
      have hl := g3.1
      have hl2 := g4.1
      have skip : ¬ (chC c ∧ t.1 < 1000) → Wf K d mX9_put 3 [some (vR 1), some (vJ j), none, some (vI (8 * (m : Int) - 8)), none, none] [] V' (fun r V' => r = none ∧ (∀ c, c ≠ 1 → c ≠ 2 → V' c = V c) ∧ (∀ q, q ≠ 2 → V' 1 q = V 1 q) ∧ TpX V' (tpR j 8 s)) := by
        intro q
        have e : tpS c t = t := if_neg q
        rw [e] at g5'
        exact ih (by omega) t V' g1 g2 g3 g4 g5'
      have take : chC c → t.1 < 1000 → Wf K d mX9_put 3 [some (vR 1), some (vJ j), none, some (vI (8 * (m : Int) - 8)), none, none] [] (upm (upm V' 2 (Int.toNat (V' 1 2)) c) 1 2 (w32 (((upm V' 2 (Int.toNat (V' 1 2)) c) 1 2) + 1))) (fun r V' => r = none ∧ (∀ c, c ≠ 1 → c ≠ 2 → V' c = V c) ∧ (∀ q, q ≠ 2 → V' 1 q = V 1 q) ∧ TpX V' (tpR j 8 s)) := by
        intro q1 q2
        rw [upm_a (b := 1) (a := 2) (by decide), hl, tn, w32_s (i := t.1) (by omega)]
        have e : tpS c t = (t.1 + 1, fun i => if i = t.1 then c else t.2 i) := if_pos ⟨q1, q2⟩
        refine ih (by omega) (tpS c t) _ (fun x p1 p2 => by rw [upm_off x p1, upm_off x p2]; exact g1 x p1 p2) (fun q p => by rw [upm_k p, upm_off 1 (by decide)]; exact g2 q p) ?_ (tpS_k g4) g5'
        rw [e]
        refine ⟨upm_s _ _ _ _, fun i hi => ?_⟩
        show upm (upm V' 2 t.1 c) 1 2 _ 2 i = if i = t.1 then c else t.2 i
        rw [upm_a (by decide)]
        by_cases w : i = t.1
        · rw [w, upm_s, if_pos rfl]
        · rw [upm_k w, if_neg w]
          exact g3.2 i (by have : i < t.1 + 1 := hi; omega)
      refine ⟨fun q => by omega, fun _ => ⟨fun q1 => ⟨fun q => by omega, fun _ => ⟨fun q => skip (by omega), fun q => ⟨⟨by omega, by omega⟩, ⟨by omega, by omega⟩, take (Or.inl q1) (by omega)⟩⟩⟩, fun q1 => ⟨fun q => skip (by unfold chC; omega), fun q2 => ⟨fun q => skip (by unfold chC; omega), fun q3 => ⟨fun q => by omega, fun _ => ⟨fun q => skip (by omega), fun q => ⟨⟨by omega, by omega⟩, ⟨by omega, by omega⟩, take (Or.inr ⟨by omega, by omega⟩) (by omega)⟩⟩⟩⟩⟩⟩⟩
  exact wqA 8 (by omega) s V (fun _ _ _ => rfl) (fun _ _ => rfl) hs hk rfl
theorem m_lay (j : Int) {s : Nat × (Nat → Int)} (hs : TpM V s) (hk : tpK s) : Mv K d mX12_lay [vR 369, vJ j] V (fun V' => (∀ c, c ≠ 369 → c ≠ 370 → V' c = V c) ∧ (∀ q, q ≠ 2 → V' 369 q = V 369 q) ∧ TpM V' (tpR j 8 s)) := by
  refine sX12_lay j ?_
  have wqA : ∀ m : Nat, m ≤ 8 → ∀ (t : Nat × (Nat → Int)) (V' : Mem), (∀ c, c ≠ 369 → c ≠ 370 → V' c = V c) → (∀ q, q ≠ 2 → V' 369 q = V 369 q) → TpM V' t → tpK t → tpR j m t = tpR j 8 s → Wf K d mX12_lay 3 [some (vR 369), some (vJ j), none, some (vI (8 * (m : Int) - 8)), none] [] V' (fun r V' => r = none ∧ (∀ c, c ≠ 369 → c ≠ 370 → V' c = V c) ∧ (∀ q, q ≠ 2 → V' 369 q = V 369 q) ∧ TpM V' (tpR j 8 s)) := by
    intro m
    induction m with
    | zero =>
      intro _ t V' g1 g2 g3 g4 g5
      exact sX12_lay_3 _ _ ⟨fun _ => ⟨rfl, g1, g2, by rw [← g5]; exact g3⟩, fun c => absurd (by decide) c⟩
    | succ m ih =>
      intro hm t V' g1 g2 g3 g4 g5
      have e0 : 8 * ((m + 1 : Nat) : Int) - 8 = ((8 * m : Nat) : Int) := by omega
      have e1 : w32 (((8 * m : Nat) : Int) + (-8)) = 8 * (m : Int) - 8 := by rw [w32_id (by omega) (by omega)]; omega
      rw [e0]
      refine sX12_lay_3 _ _ ?_
      rw [e1]
      clear e0 e1
      have hb := byt_r j (8 * m)
      rw [byt_s j (show 8 * m ≤ 56 by omega)]
      have g5' : tpR j m (tpS (byt j (8 * m)) t) = tpR j 8 s := g5
      generalize byt j (8 * m) = c at *
      have hl := g3.1
      have hl2 := g4.1
      have skip : ¬ (chC c ∧ t.1 < 1000) → Wf K d mX12_lay 3 [some (vR 369), some (vJ j), none, some (vI (8 * (m : Int) - 8)), none] [] V' (fun r V' => r = none ∧ (∀ c, c ≠ 369 → c ≠ 370 → V' c = V c) ∧ (∀ q, q ≠ 2 → V' 369 q = V 369 q) ∧ TpM V' (tpR j 8 s)) := by
        intro q
        have e : tpS c t = t := if_neg q
        rw [e] at g5'
        exact ih (by omega) t V' g1 g2 g3 g4 g5'
      have take : chC c → t.1 < 1000 → Wf K d mX12_lay 3 [some (vR 369), some (vJ j), none, some (vI (8 * (m : Int) - 8)), none] [] (upm (upm V' 370 (Int.toNat (V' 369 2)) c) 369 2 (w32 (((upm V' 370 (Int.toNat (V' 369 2)) c) 369 2) + 1))) (fun r V' => r = none ∧ (∀ c, c ≠ 369 → c ≠ 370 → V' c = V c) ∧ (∀ q, q ≠ 2 → V' 369 q = V 369 q) ∧ TpM V' (tpR j 8 s)) := by
        intro q1 q2
        rw [upm_a (b := 369) (a := 370) (by decide), hl, tn, w32_s (i := t.1) (by omega)]
        have e : tpS c t = (t.1 + 1, fun i => if i = t.1 then c else t.2 i) := if_pos ⟨q1, q2⟩
        refine ih (by omega) (tpS c t) _ (fun x p1 p2 => by rw [upm_off x p1, upm_off x p2]; exact g1 x p1 p2) (fun q p => by rw [upm_k p, upm_off 369 (by decide)]; exact g2 q p) ?_ (tpS_k g4) g5'
        rw [e]
        refine ⟨upm_s _ _ _ _, fun i hi => ?_⟩
        show upm (upm V' 370 t.1 c) 369 2 _ 370 i = if i = t.1 then c else t.2 i
        rw [upm_a (by decide)]
        by_cases w : i = t.1
        · rw [w, upm_s, if_pos rfl]
        · rw [upm_k w, if_neg w]
          exact g3.2 i (by have : i < t.1 + 1 := hi; omega)
      refine ⟨fun q => by omega, fun _ => ⟨fun q1 => ⟨fun q => skip (by omega), fun q => ⟨⟨by omega, by omega⟩, take (Or.inl q1) (by omega)⟩⟩, fun q1 => ⟨fun q => skip (by unfold chC; omega), fun q2 => ⟨fun q => skip (by unfold chC; omega), fun q3 => ⟨fun q => skip (by omega), fun q => ⟨⟨by omega, by omega⟩, take (Or.inr ⟨by omega, by omega⟩) (by omega)⟩⟩⟩⟩⟩⟩
  exact wqA 8 (by omega) s V (fun _ _ _ => rfl) (fun _ _ => rfl) hs hk rfl
theorem st_feed (hI : Inv V) (a b c : Int) : Bth K (d + 2) mX11_feed [vR 0, vJ a, vJ b, vJ c] mX12_feed [vR 369, vJ a, vJ b, vJ c] V := by
  obtain ⟨P, n, R, B, S, BT, hT, hK, hTo, hLw, hL, hM, hH, hLn, hmd⟩ := id hI
  obtain ⟨L, t1, t2, t3, t4⟩ := hT
  have hR := hTo.1.2.2.1
  obtain ⟨s, hs⟩ : ∃ s : Nat × (Nat → Int), s = (L, V 370) := ⟨_, rfl⟩
  have k0 : tpK s := by rw [hs]; exact ⟨t3, fun i hi => (t4 i hi).2⟩
  have x0 : TpX V s := by rw [hs]; exact ⟨t1, fun i hi => (t4 i hi).1⟩
  have m0 : TpM V s := by rw [hs]; exact ⟨t2, fun i hi => rfl⟩
  have k1 := tpR_k (j := a) 8 s k0
  have k2 := tpR_k (j := b) 8 _ k1
  have k3 := tpR_k (j := c) 8 _ k2
  refine sX11_feed a b c ((c_put (d := d + 1) a x0 k0).use (fun V1 ⟨a1, a2, a3⟩ => (c_put (d := d + 1) (V := V1) b a3 k1).use (fun V2 ⟨b1, b2, b3⟩ => (c_put (d := d + 1) (V := V2) c b3 k2).use (fun V3 ⟨c1, c2, c3⟩ => ⟨_, rfl, ?_⟩))))
  have e3 : ∀ x, x ≠ 1 → x ≠ 2 → V3 x = V x := fun x q1 q2 => by rw [c1 x q1 q2, b1 x q1 q2, a1 x q1 q2]
  have f3 : FrM V3 (upm V3 369 0 0) := FrM.th 0
  have m1 : TpM (upm V3 369 0 0) s := ⟨by rw [upm_k (by decide), e3 369 (by decide) (by decide)]; exact m0.1, fun i hi => by rw [upm_off 370 (by decide), e3 370 (by decide) (by decide)]; exact m0.2 i hi⟩
  refine sX12_feed a b c (Mv.use (m_lay (d := d + 1) a m1 k0) (fun V4 ⟨p1, p2, p3⟩ => Mv.use (m_lay (d := d + 1) (V := V4) b p3 k1) (fun V5 ⟨q1, q2, q3⟩ => Mv.use (m_lay (d := d + 1) (V := V5) c q3 k2) (fun V6 ⟨r1, r2, r3⟩ => ⟨_, rfl, ?_, ?_⟩))))
  · rw [r3.1, c3.1]
  · have e6 : ∀ x, x ≠ 369 → x ≠ 370 → V6 x = V3 x := fun x w1 w2 => by rw [r1 x w1 w2, q1 x w1 w2, p1 x w1 w2, upm_off x w1]
    have e : ∀ x, x ≠ 1 → x ≠ 2 → x ≠ 369 → x ≠ 370 → V6 x = V x := fun x w1 w2 w3 w4 => by rw [e6 x w3 w4, e3 x w1 w2]
    have e9 : ∀ q, q ≠ 0 → q ≠ 2 → V6 369 q = V 369 q := fun q w1 w2 => by rw [r2 q w2, q2 q w2, p2 q w2, upm_k w1, e3 369 (by decide) (by decide)]
    refine ⟨P, n, R, B, S, BT, ⟨_, by rw [e6 1 (by decide) (by decide)]; exact c3.1, r3.1, k3.1, fun i hi => ⟨?_, by rw [r3.2 i hi]; exact k3.2 i hi⟩⟩, hK.congr (e 3 (by omega) (by omega) (by omega) (by omega)) (e 374 (by omega) (by omega) (by omega) (by omega)), hTo.congr (fun x w1 w2 => e x (by omega) (by omega) (by omega) (by omega)) (e 375 (by omega) (by omega) (by omega) (by omega)) (e 377 (by omega) (by omega) (by omega) (by omega)), hLw.congr (e 135 (by omega) (by omega) (by omega) (by omega)) (e 136 (by omega) (by omega) (by omega) (by omega)) (by rw [e 375 (by omega) (by omega) (by omega) (by omega)]) (fun j _ => by rw [e 376 (by omega) (by omega) (by omega) (by omega)]), hL.congr (fun x w1 w2 => e x (by omega) (by omega) (by omega) (by omega)) (e 375 (by omega) (by omega) (by omega) (by omega)) (fun i _ => by rw [e 381 (by omega) (by omega) (by omega) (by omega)]), hM.congr (e 134 (by omega) (by omega) (by omega) (by omega)) (e 382 (by omega) (by omega) (by omega) (by omega)) (e 375 (by omega) (by omega) (by omega) (by omega)) (fun x w1 w2 => e x (by omega) (by omega) (by omega) (by omega)) (fun j _ _ => by rw [e 381 (by omega) (by omega) (by omega) (by omega)]), hH.congr hR (fun x w1 w2 => e x (by omega) (by omega) (by omega) (by omega)) (e9 18 (by decide) (by decide)) (fun j _ => by rw [e 381 (by omega) (by omega) (by omega) (by omega)]), hLn.congr (fun x w1 w2 => e x (by omega) (by omega) (by omega) (by omega)) (e 378 (by omega) (by omega) (by omega) (by omega)), by rw [e 0 (by omega) (by omega) (by omega) (by omega), e9 19 (by decide) (by decide)]; exact hmd⟩
    rw [e6 2 (by decide) (by decide), r3.2 i hi]
    exact c3.2 i hi
end FED
