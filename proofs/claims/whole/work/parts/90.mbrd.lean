/-! ===== the reference reads a braid ===== -/
theorem ix90a {B j : Nat} (hB : B ≤ 4) (hj : j ≤ 20) : w32 (w32 (((231 + 11 * B : Nat) : Int) + 1) + (j : Int)) = ((232 + 11 * B + j : Nat) : Int) := by rw [w32_id (x := ((231 + 11 * B : Nat) : Int) + 1) (by omega) (by omega), w32_id (by omega) (by omega)]; omega
theorem ix90c {B : Nat} (hB : B ≤ 4) : w32 (231 + w32 (11 * (B : Int))) = ((231 + 11 * B : Nat) : Int) := by rw [w32_id (x := 11 * (B : Int)) (by omega) (by omega), w32_id (by omega) (by omega)]; omega
/-! bits -/
theorem mbt1 : ∀ m, m < 1024 → ∀ v, v < 10 → (b_iand (b_ishr ((m : Nat) : Int) ((v : Nat) : Int)) 1 = 1 ↔ Nat.testBit m v = true) := by decide +kernel
theorem mbt2 : ∀ m, m < 1024 → ∀ v, v < 10 → b_ior ((m : Nat) : Int) (b_ishl 1 ((v : Nat) : Int)) = ((m ||| 2 ^ v : Nat) : Int) := by decide +kernel
theorem mbt3 : ∀ q, q < 11 → w32 (b_ishl 1 ((q : Nat) : Int) - 1) = ((2 ^ q - 1 : Nat) : Int) := by decide +kernel
/-- the bits of the strands from b on -/
def mtS (t : Nat → Int) (L b : Nat) : Nat → Nat
  | 0 => 0
  | j + 1 => mtS t L b j ||| 2 ^ (nT t L (b + j)).toNat
theorem mtS_b {t : Nat → Int} {L b : Nat} : ∀ j, (∀ k, k < j → bdG t L b k) → mtS t L b j < 1024 ∧ ∀ v : Nat, (Nat.testBit (mtS t L b j) v = true ↔ ∃ k, k < j ∧ nT t L (b + k) = (v : Int))
  | 0, _ => ⟨by show 0 < 1024; omega, fun v => ⟨fun h => by
      have e : Nat.testBit 0 v = false := Nat.zero_testBit v
      have h' : Nat.testBit 0 v = true := h
      rw [e] at h'
      exact absurd h' (by decide), fun ⟨k, hk, _⟩ => by omega⟩⟩
  | j + 1, h => by
    obtain ⟨a, c⟩ := mtS_b j (fun k hk => h k (by omega))
    have hj := h j (by omega)
    have h0 : 0 ≤ nT t L (b + j) := (tk_n hj.1).1
    have h9 := hj.2.1
    have e : mtS t L b (j + 1) = mtS t L b j ||| 2 ^ (nT t L (b + j)).toNat := rfl
    rw [e]
    refine ⟨Nat.or_lt_two_pow (n := 10) a (Nat.pow_lt_pow_right (by decide) (by omega)), fun v => ?_⟩
    rw [Nat.testBit_or, Nat.testBit_two_pow, Bool.or_eq_true, c v, decide_eq_true_iff]
    constructor
    · rintro (⟨k, p1, p2⟩ | p)
      · exact ⟨k, by omega, p2⟩
      · exact ⟨j, by omega, by omega⟩
    · rintro ⟨k, p1, p2⟩
      by_cases q : k = j
      · right; rw [q] at p2; omega
      · left; exact ⟨k, by omega, p2⟩
theorem mtS_w {t : Nat → Int} {L b q : Nat} (h : ∀ k, k < q → bdG t L b k) : mtS t L b q = 2 ^ q - 1 ↔ bdW t L b q = true := by
  obtain ⟨_, c⟩ := mtS_b q h
  have pos : ∀ s, s < q → 0 ≤ nT t L (b + s) := fun s hs => (tk_n (h s hs).1).1
  constructor
  · intro e
    refine decide_eq_true (fun s hs => ?_)
    have p := pos s hs
    have b1 := (c (nT t L (b + s)).toNat).2 ⟨s, hs, by omega⟩
    rw [e, Nat.testBit_two_pow_sub_one] at b1
    have := of_decide_eq_true b1
    omega
  · intro w
    have w' : ∀ s, s < q → nT t L (b + s) < (q : Int) := of_decide_eq_true w
    apply Nat.eq_of_testBit_eq
    intro v
    rw [Nat.testBit_two_pow_sub_one, Bool.eq_iff_iff, c v, decide_eq_true_iff]
    constructor
    · rintro ⟨k, p1, p2⟩
      have := w' k p1
      omega
    · intro hv
      exact php (e := fun s => nT t L (b + s)) (fun s hs => ⟨pos s hs, w' s hs⟩) (fun s u hs hu e => by
        rcases Nat.lt_trichotomy s u with x | x | x
        · exact absurd e ((h u hu).2.2 s x)
        · exact x
        · exact absurd e.symm ((h s hs).2.2 u x)) hv
/-- the reference behind a braid -/
def MBp (R B : Nat) (rI bI : Nat → Nat) (t : Nat → Int) (L i : Nat) (V V' : Mem) : Prop := MFr V V' ∧ ((0 < V' 369 8 ∧ bdF R B rI bI t L i = V' 369 8 ∧ ∃ j : Nat, V' 369 7 = (j : Int) ∧ j ≤ 1001) ∨ (V' 369 8 = 0 ∧ V' 369 7 = (bdE t L i : Nat) ∧ 0 < bdQ t L i ∧ bdF R B rI bI t L i = (if cT t L (bdE t L i) = 59 then 0 else ftT t L (bdE t L i) 1) ∧ V' 375 141 = ((B + 1 : Nat) : Int) ∧ V' 375 (231 + 11 * B) = (bdQ t L i : Nat) ∧ (∀ p, p < bdQ t L i → V' 375 (232 + 11 * B + p) = nT t L (i + 2 + p)) ∧ (∀ j, 140 ≤ j → j ≠ 141 → (j < 231 + 11 * B ∨ 242 + 11 * B ≤ j) → V' 375 j = V 375 j) ∧ V' 377 (12 + B) = wT 37 t L (i + 1) ∧ (∀ j, j ≠ 12 + B → V' 377 j = V 377 j)))
section MBD
variable {K : KK} {d : Nat} {V : Mem} {t : Nat → Int} {L N i R B : Nat} {rI bI : Nat → Nat}
/-- behind a fault -/
theorem m_brd_bad {W : Mem} {j : Nat} (hF : MFr V W) (h8 : 0 < W 369 8) (h7 : W 369 7 = (j : Int)) (hj : j ≤ 1001) (hf : bdF R B rI bI t L i = W 369 8) (x2 x3 x4 : Int) : Wf K (d + 4) mX12_readBraid 97 [some (vR 369), none, some (vI x2), some (vI x3), some (vI x4), none] [] W (fun r V' => r = none ∧ MBp R B rI bI t L i V V') := by
  have c : ¬ W 369 8 = 0 := by omega
  refine sX12_readBraid_97 _ _ _ ⟨fun _ => sX12_readBraid_117 _ _ _ ((m_isSign0 c).use ⟨fun _ => sX12_readBraid_141 _ _ ⟨fun _ => ⟨rfl, hF, Or.inl ⟨h8, hf, j, h7, hj⟩⟩, fun q => absurd q c⟩, fun q => absurd rfl q⟩), fun q => absurd q c⟩
theorem m_brd_bad26 {W : Mem} {j : Nat} (hF : MFr V W) (h8 : 0 < W 369 8) (h7 : W 369 7 = (j : Int)) (hj : j ≤ 1001) (hf : bdF R B rI bI t L i = W 369 8) (x2 x3 x4 : Int) : Wf K (d + 4) mX12_readBraid 26 [some (vR 369), none, some (vI x2), some (vI x3), some (vI x4), none] [] W (fun r V' => r = none ∧ MBp R B rI bI t L i V V') := by
  have c : ¬ W 369 8 = 0 := by omega
  exact sX12_readBraid_26 _ _ _ ((m_takeNumber0 (d := d + 2) h8).use ⟨fun _ => sX12_readBraid_67 _ _ _ _ ⟨fun _ => m_brd_bad hF h8 h7 hj hf _ _ _, fun q => absurd q c⟩, fun q => absurd q c⟩)
theorem m_brd_loop (hL : L ≤ 1000) (hP : psT t L N = L) (hB : B < 4) (hV : V 375 141 = (B : Nat)) (f2 : bdF R B rI bI t L i = bdZ t L (i + 2) (bdE t L i) (bdQ t L i)) : ∀ j, j ≤ 10 → (∀ k, k < j → bdG t L (i + 2) k) → (j = 0 ∨ gT t L (i + 2 + j) = 3) → ∀ W : Mem, MFr V W → RS W t L N (i + 2 + j) → W 369 8 = 0 → (∀ p, p < j → W 375 (232 + 11 * B + p) = nT t L (i + 2 + p)) → (∀ k, 140 ≤ k → (k < 231 + 11 * B ∨ 242 + 11 * B ≤ k) → W 375 k = V 375 k) → W 377 (12 + B) = wT 37 t L (i + 1) → (∀ j, j ≠ 12 + B → W 377 j = V 377 j) → Wf K (d + 4) mX12_readBraid 26 [some (vR 369), none, some (vI ((231 + 11 * B : Nat) : Int)), some (vI (mtS t L (i + 2) j : Nat)), some (vI (j : Int)), none] [] W (fun r V' => r = none ∧ MBp R B rI bI t L i V V') := by
  have key : ∀ j, j ≤ 10 → ((j < 10) → (∀ k, k < j + 1 → bdG t L (i + 2) k) → (j + 1 = 0 ∨ gT t L (i + 2 + (j + 1)) = 3) → ∀ W : Mem, MFr V W → RS W t L N (i + 2 + (j + 1)) → W 369 8 = 0 → (∀ p, p < j + 1 → W 375 (232 + 11 * B + p) = nT t L (i + 2 + p)) → (∀ k, 140 ≤ k → (k < 231 + 11 * B ∨ 242 + 11 * B ≤ k) → W 375 k = V 375 k) → W 377 (12 + B) = wT 37 t L (i + 1) → (∀ j, j ≠ 12 + B → W 377 j = V 377 j) → Wf K (d + 4) mX12_readBraid 26 [some (vR 369), none, some (vI ((231 + 11 * B : Nat) : Int)), some (vI (mtS t L (i + 2) (j + 1) : Nat)), some (vI ((j + 1 : Nat) : Int)), none] [] W (fun r V' => r = none ∧ MBp R B rI bI t L i V V')) → (∀ k, k < j → bdG t L (i + 2) k) → (j = 0 ∨ gT t L (i + 2 + j) = 3) → ∀ W : Mem, MFr V W → RS W t L N (i + 2 + j) → W 369 8 = 0 → (∀ p, p < j → W 375 (232 + 11 * B + p) = nT t L (i + 2 + p)) → (∀ k, 140 ≤ k → (k < 231 + 11 * B ∨ 242 + 11 * B ≤ k) → W 375 k = V 375 k) → W 377 (12 + B) = wT 37 t L (i + 1) → (∀ j, j ≠ 12 + B → W 377 j = V 377 j) → Wf K (d + 4) mX12_readBraid 26 [some (vR 369), none, some (vI ((231 + 11 * B : Nat) : Int)), some (vI (mtS t L (i + 2) j : Nat)), some (vI (j : Int)), none] [] W (fun r V' => r = none ∧ MBp R B rI bI t L i V V') := by
    intro j hj nxt hg h0 W w1 ws w8 w5 w6 w7 w9
    obtain ⟨m1, m2⟩ := mtS_b j hg
    have stop : ∀ q, q ≤ 10 → (∀ k, k < q → bdG t L (i + 2) k) → (¬ bdG t L (i + 2) q) → bdQ t L i = q ∧ bdE t L i = i + 2 + q := fun q p1 p2 p3 => by
      have e : bdQ t L i = q := bq_un p1 10 0 rfl (Nat.zero_le _) (fun k _ hk => p2 k hk) (Or.inr p3)
      exact ⟨e, by unfold bdE; rw [e]⟩
    have n59 : ∀ e, gT t L e = 3 → ¬ cT t L e = 59 := fun e x c => by
      have := (tk_sign (t := t) (L := L) (p := psT t L e) (s := 59) (by decide)).1 c
      have x' : tkG t L (psT t L e) = 3 := x
      omega
    have wle := ws.2.1
    have wN := ws.2.2.1
    refine sX12_readBraid_26 _ _ _ ((m_takeNumber (d := d + 2) ws hL w8).use ?_)
    rintro z T (⟨p1, p2, p3⟩ | ⟨p1, p2, p3, p4⟩ | ⟨p1, p2, p3, p4⟩)
    · have j0 : j = 0 := h0.elim id (fun x => absurd x p1)
      obtain ⟨s1, s2⟩ := stop j hj hg (fun x => p1 x.1)
      have hp := ft_pos (t := t) (L := L) (i := i + 2 + j) (w := 1) (by omega)
      have t8 : T 369 8 = ftT t L (i + 2 + j) 1 := by rw [p3, upm_s]
      refine ⟨fun _ => sX12_readBraid_67 _ _ _ _ ⟨fun _ => m_brd_bad (j := i + 2 + j) (w1.trans (by rw [p3]; exact MFr.at8)) (by rw [t8]; exact hp) (by rw [p3, upm_k (by decide)]; exact ws.1) (by omega) (by rw [f2, s1, s2, t8]; unfold bdZ; rw [if_neg (by omega), if_neg p1]) _ _ _, fun q => by omega⟩, fun q => by omega⟩
    · obtain ⟨s1, s2⟩ := stop j hj hg (fun x => by have := x.2.1; omega)
      have hp := ft_pos (t := t) (L := L) (i := i + 2 + j) (w := 4) (by omega)
      have t8 : T 369 8 = ftT t L (i + 2 + j) 4 := by rw [p4, upm_s]
      refine ⟨fun _ => sX12_readBraid_67 _ _ _ _ ⟨fun _ => m_brd_bad (j := i + 2 + j) (w1.trans (by rw [p4]; exact MFr.at8)) (by rw [t8]; exact hp) (by rw [p4, upm_k (by decide)]; exact ws.1) (by omega) (by rw [f2, s1, s2, t8]; unfold bdZ; rw [if_neg (fun x => n59 _ p1 x.2), if_pos p1, if_neg (by omega)]) _ _ _, fun q => by omega⟩, fun q => by omega⟩
    · have t8 : T 369 8 = 0 := by rw [p4, upm_k (by decide)]; exact w8
      have t7 : T 369 7 = ((i + 2 + j + 1 : Nat) : Int) := by rw [p4, upm_s]
      have hi1 := tk_nx hP wle (by omega : gT t L (i + 2 + j) ≠ 0)
      have tF : MFr V T := w1.trans (by rw [p4]; exact MFr.at7)
      have b1 : W 372 (i + 2 + j) = (psT t L (i + 2 + j) : Nat) := (ws.2.2.2.1 _ wle).1
      obtain ⟨v, hv⟩ : ∃ v : Nat, nT t L (i + 2 + j) = (v : Int) := ⟨(nT t L (i + 2 + j)).toNat, by
        have : 0 ≤ nT t L (i + 2 + j) := (tk_n p1).1
        omega⟩
      have v10 : v < 10 := by omega
      have zv : z = (v : Int) := by omega
      rw [zv, mbt1 _ m1 v v10, m2 v]
      refine ⟨fun q => absurd t8 q, fun _ => ⟨fun cn => ?_, fun cn => ?_⟩⟩
      · have good : bdG t L (i + 2) j := ⟨p1, p2, fun k hk e => cn ⟨k, hk, by rw [e]; exact hv⟩⟩
        have j10 : j < 10 := by
          rcases Nat.lt_or_ge j 10 with x | x
          · exact x
          · have e : j = 10 := by omega
            subst e
            exact absurd good (bd_ten hg)
        refine sX12_readBraid_67 _ _ _ _ ⟨fun q => absurd t8 q, fun _ => ?_⟩
        rw [ix90a (B := B) (j := j) (by omega) (by omega), tn, w32_s (i := j) (by omega), mbt2 _ m1 v v10, ← hv]
        have em : mtS t L (i + 2) j ||| 2 ^ v = mtS t L (i + 2) (j + 1) := by
          show _ = mtS t L (i + 2) j ||| 2 ^ (nT t L (i + 2 + j)).toNat
          rw [hv]; rfl
        rw [em]
        have yF : MFr V (upm T 375 (232 + 11 * B + j) (nT t L (i + 2 + j))) := tF.trans (MFr.at375 (by omega))
        have y7 : (upm T 375 (232 + 11 * B + j) (nT t L (i + 2 + j))) 369 7 = ((i + 2 + (j + 1) : Nat) : Int) := by rw [upm_off 369 (by decide)]; exact t7
        have y8 : (upm T 375 (232 + 11 * B + j) (nT t L (i + 2 + j))) 369 8 = 0 := by rw [upm_off 369 (by decide)]; exact t8
        have y5 : ∀ p, p < j + 1 → (upm T 375 (232 + 11 * B + j) (nT t L (i + 2 + j))) 375 (232 + 11 * B + p) = nT t L (i + 2 + p) := fun p hp => by
          by_cases e : p = j
          · rw [e, upm_s]
          · rw [upm_k (by omega), p4, upm_off 375 (by decide)]; exact w5 p (by omega)
        have y6 : ∀ k, 140 ≤ k → (k < 231 + 11 * B ∨ 242 + 11 * B ≤ k) → (upm T 375 (232 + 11 * B + j) (nT t L (i + 2 + j))) 375 k = V 375 k := fun k q1 q2 => by rw [upm_k (by omega), p4, upm_off 375 (by decide)]; exact w6 k q1 q2
        have y77 : (upm T 375 (232 + 11 * B + j) (nT t L (i + 2 + j))) 377 = W 377 := by rw [upm_off 377 (by decide), p4, upm_off 377 (by decide)]
        have ys : RS (upm T 375 (232 + 11 * B + j) (nT t L (i + 2 + j))) t L N (i + 2 + (j + 1)) := by
          have m : MFr W (upm T 375 (232 + 11 * B + j) (nT t L (i + 2 + j))) := by rw [p4]; exact MFr.at7.trans (MFr.at375 (by omega))
          exact m.rs ws y7 hi1
        have hg' : ∀ k, k < j + 1 → bdG t L (i + 2) k := fun k hk => by
          by_cases e : k = j
          · rw [e]; exact good
          · exact hg k (by omega)
        generalize upm T 375 (232 + 11 * B + j) (nT t L (i + 2 + j)) = Y at *
        have b2 : Y 371 (i + 2 + (j + 1)) = 2 ↔ gT t L (i + 2 + (j + 1)) = 3 := by rw [(ys.2.2.2.1 (i + 2 + (j + 1)) hi1).2.1]; exact rso_n
        refine ⟨⟨by omega, by omega⟩, sX12_readBraid_97 _ _ _ ⟨fun q => absurd y8 q, fun _ => ?_⟩⟩
        rw [y7, tn, b2]
        refine ⟨⟨by omega, by omega⟩, fun c => nxt j10 hg' (Or.inr c) Y yF ys y8 y5 y6 (by rw [y77]; exact w7) (fun k q => by rw [y77]; exact w9 k q), fun c => sX12_readBraid_117 _ _ _ ((m_isSign (d := d + 3) ys (by decide) y8).use ?_)⟩
        obtain ⟨s1, s2⟩ := stop (j + 1) (by omega) hg' (fun x => c x.1)
        have yB : Y 375 141 = (B : Nat) := by rw [y6 141 (by omega) (by omega)]; exact hV
        have fin : bdF R B rI bI t L i = (if cT t L (bdE t L i) = 59 then 0 else ftT t L (bdE t L i) 1) → Wf K (d + 4) mX12_readBraid 141 [some (vR 369), none, some (vI ((231 + 11 * B : Nat) : Int)), none, some (vI ((j + 1 : Nat) : Int)), none] [] Y (fun r V' => r = none ∧ MBp R B rI bI t L i V V') := by
          intro hf
          refine sX12_readBraid_141 _ _ ⟨fun q => absurd y8 q, fun _ => ?_⟩
          rw [tn, upm_k (show (141 : Nat) ≠ 231 + 11 * B by omega), yB, w32_s (i := B) (by omega)]
          refine ⟨⟨by omega, by omega⟩, rfl, yF.trans ((MFr.at375 (by omega)).trans (MFr.at375 (by omega))), Or.inr ⟨by rw [upm_off 369 (by decide), upm_off 369 (by decide)]; exact y8, by rw [upm_off 369 (by decide), upm_off 369 (by decide), s2]; exact y7, by omega, hf, upm_s _ _ _ _, by rw [upm_k (by omega), upm_s, s1], fun p hp => ?_, fun k q0 q1 q2 => by rw [upm_k q1, upm_k (by omega)]; exact y6 k q0 q2, by rw [upm_off 377 (by decide), upm_off 377 (by decide), y77]; exact w7, fun k q => by rw [upm_off 377 (by decide), upm_off 377 (by decide), y77]; exact w9 k q⟩⟩
          rw [s1] at hp
          rw [upm_k (by omega), upm_k (by omega)]
          exact y5 p hp
        by_cases c9 : cT t L (i + 2 + (j + 1)) = 59
        · rw [if_pos c9, mbt3 (j + 1) (by omega)]
          refine ⟨fun q => absurd q (by decide), fun _ => ⟨fun e => fin ?_, fun e => ⟨fun q => absurd y8 q, fun _ => ?_⟩⟩⟩
          · have e' : mtS t L (i + 2) (j + 1) = 2 ^ (j + 1) - 1 := Int.ofNat.inj e
            rw [f2, s1, s2]
            unfold bdZ
            rw [if_pos ⟨by omega, c9⟩, if_pos ((mtS_w hg').1 e'), if_pos c9]
          · have e' : ¬ mtS t L (i + 2) (j + 1) = 2 ^ (j + 1) - 1 := fun x => e (congrArg _ x)
            have yb : Y 372 (i + 2 + (j + 1)) = (psT t L (i + 2 + (j + 1)) : Nat) := (ys.2.2.2.1 _ hi1).1
            rw [y7, tn, yb, ftT_w hL (by omega)]
            have hp := ft_pos (t := t) (L := L) (i := i + 2 + (j + 1)) (w := 5) (by omega)
            have u8 : (upm Y 369 8 (ftT t L (i + 2 + (j + 1)) 5)) 369 8 = ftT t L (i + 2 + (j + 1)) 5 := upm_s _ _ _ _
            refine ⟨⟨by omega, by omega⟩, sX12_readBraid_141 _ _ ⟨fun _ => ⟨rfl, yF.trans MFr.at8, Or.inl ⟨by rw [u8]; exact hp, ?_, i + 2 + (j + 1), by rw [upm_k (by decide)]; exact y7, by omega⟩⟩, fun q => by omega⟩⟩
            rw [f2, s1, s2, u8]
            unfold bdZ
            rw [if_pos ⟨by omega, c9⟩, if_neg (fun x => e' ((mtS_w hg').2 x))]
        · rw [if_neg c9]
          refine ⟨fun _ => fin ?_, fun q => absurd rfl q⟩
          rw [f2, s1, s2]
          unfold bdZ
          rw [if_neg (fun x => c9 x.2), if_neg c, if_neg c9]
      · obtain ⟨k, k1, k2⟩ := cn
        obtain ⟨s1, s2⟩ := stop j hj hg (fun x => x.2.2 k k1 (by rw [k2, hv]))
        rw [upm_k (show (8 : Nat) ≠ 7 by decide), upm_s, t7, ix88 (e := i + 2 + j) (by omega), upm_off 372 (by decide), tn, p4, upm_off 372 (by decide), b1, ftT_w hL (by omega), ← p4]
        have hp := ft_pos (t := t) (L := L) (i := i + 2 + j) (w := 3) (by omega)
        have u8 : (upm (upm T 369 7 ((i + 2 + j : Nat) : Int)) 369 8 (ftT t L (i + 2 + j) 3)) 369 8 = ftT t L (i + 2 + j) 3 := upm_s _ _ _ _
        refine ⟨fun q => absurd t8 q, fun _ => ⟨⟨by omega, by omega⟩, sX12_readBraid_67 _ _ _ _ ⟨fun _ => m_brd_bad (j := i + 2 + j) (tF.trans (MFr.at7.trans MFr.at8)) (by rw [u8]; exact hp) (by rw [upm_k (by decide), upm_s]) (by omega) (by rw [f2, s1, s2, u8]; unfold bdZ; rw [if_neg (fun x => n59 _ p1 x.2), if_pos p1, if_pos p2]) _ _ _, fun q => by omega⟩⟩⟩
  exact up_ind (key 10 (Nat.le_refl _) (fun x => by omega)) (fun j hj ih => key j (by omega) (fun _ => ih))
theorem m_readBraid (hL : L ≤ 1000) (hP : psT t L N = L) (h : RS V t L N i) (h8 : V 369 8 = 0) (hg : gT t L i ≠ 0) (hN : MN V t L R B rI bI) : Mv K (d + 4) mX12_readBraid [vR 369] V (fun V' => MBp R B rI bI t L i V V') := by
  have e141 : (w32 (140 + 1)).toNat = 141 := by decide
  have hB := hN.2.2.2.1
  have hi1 := tk_nx hP h.2.1 hg
  have hN1 := h.2.2.1
  refine sX12_readBraid ?_
  rw [e141, hN.2.1, ix90c hB]
  refine ⟨by decide, Mv.use (m_readName (d := d) (a := 4) (m := B) h hL hP h8 hg hN (by omega) hB) ?_⟩
  rintro W (⟨m4, e⟩ | ⟨m4, nn, e⟩ | ⟨m4, nn, cn, e⟩)
  · have w8 : W 369 8 = ftT t L i 5 := by rw [e, upm_s]
    have w7 : W 369 7 = (i : Int) := by rw [e, upm_k (by decide)]; exact h.1
    have hp := ft_pos (t := t) (L := L) (i := i) (w := 5) (by omega)
    exact m_brd_bad26 (j := i) (by rw [e]; exact MFr.at8) (by rw [w8]; exact hp) w7 (by omega) (by rw [w8]; exact if_pos m4) _ _ _
  · have w8 : W 369 8 = nnF R B rI bI t L (i + 1) := by rw [e, upm_s]
    have w7 : W 369 7 = ((i + 1 : Nat) : Int) := by rw [e, upm_k (by decide), upm_s]
    have hp : 0 < nnF R B rI bI t L (i + 1) := by
      unfold nnF at nn ⊢
      by_cases c : nmT t L (i + 1) = true
      · rw [if_pos c] at nn ⊢
        by_cases c2 : dpT R B rI bI t L (i + 1) = true
        · rw [if_pos c2]; exact ft_pos (by omega)
        · rw [if_neg c2] at nn; exact absurd rfl nn
      · rw [if_neg c]; exact ft_pos (by omega)
    exact m_brd_bad26 (j := i + 1) (by rw [e]; exact MFr.at7.trans MFr.at8) (by rw [w8]; exact hp) w7 (by omega) (by rw [w8]; unfold bdF; rw [if_neg m4, if_pos nn]) _ _ _
  · rw [show 8 + 4 + B = 12 + B by omega] at e
    have w8 : W 369 8 = 0 := by rw [e, upm_k (by decide), upm_off 369 (by decide), upm_k (by decide)]; exact h8
    have w7 : W 369 7 = ((i + 2 : Nat) : Int) := by rw [e, upm_s]
    have hi2 := tk_nx hP hi1 (nm_g cn)
    have wF : MFr V W := by rw [e]; exact MFr.at7.trans ((MFr.at377 (by omega)).trans MFr.at7)
    have ws : RS W t L N (i + 2) := wF.rs h w7 hi2
    have f2 : bdF R B rI bI t L i = bdZ t L (i + 2) (bdE t L i) (bdQ t L i) := by unfold bdF; rw [if_neg m4, if_neg (fun x => x nn)]
    exact m_brd_loop (d := d) hL hP (by omega) hN.2.1 f2 0 (by omega) (fun k hk => by omega) (Or.inl rfl) W wF ws w8 (fun p hp => by omega) (fun k q1 q2 => by rw [e, upm_off 375 (by decide), upm_off 375 (by decide), upm_off 375 (by decide)]) (by rw [e, upm_off 377 (by decide), upm_s]) (fun k q => by rw [e, upm_off 377 (by decide), upm_k q, upm_off 377 (by decide)])
end MBD
