/-! ===== the reference's new names ===== -/
theorem fsN_congr {f g : Nat → Int} {e : Int} : ∀ n, (∀ k, k < n → f k = g k) → fsN f e n = fsN g e n
  | 0, _ => rfl
  | n + 1, h => by
    have q1 : fsN f e (n + 1) = if f n = e then (n : Int) else fsN f e n := rfl
    have q2 : fsN g e (n + 1) = if g n = e then (n : Int) else fsN g e n := rfl
    rw [q1, q2, h n (by omega), fsN_congr n (fun k hk => h k (by omega))]
theorem ix85a {a m : Nat} (h : a + m ≤ 100) : w32 (w32 (8 + (a : Int)) + (m : Int)) = ((8 + a + m : Nat) : Int) := by rw [w32_id (x := 8 + (a : Int)) (by omega) (by omega), w32_id (by omega) (by omega)]; omega
/-- the reference's drafts have these names -/
def MN (V : Mem) (t : Nat → Int) (L R B : Nat) (rI bI : Nat → Nat) : Prop := V 375 140 = (R : Nat) ∧ V 375 141 = (B : Nat) ∧ R ≤ 4 ∧ B ≤ 4 ∧ (∀ r, r < R → V 377 (8 + r) = wT 37 t L (rI r + 1)) ∧ ∀ b, b < B → V 377 (12 + b) = wT 37 t L (bI b + 1)
section MNM
variable {K : KK} {d : Nat} {V : Mem} {t : Nat → Int} {L N i R B : Nat} {rI bI : Nat → Nat}
theorem m_takeOne0 {x y : Int} (h8 : 0 < V 369 8) (h7 : V 369 7 = (i : Int)) (hi : i ≤ 1001) : Pu K (d + 1) mX12_takeOne [vR 369, vI x, vI y] V 0 := by
  have c : ¬ V 369 8 = 0 := by omega
  have c2 : ¬ V 369 8 ≤ 0 := by omega
  refine sX12_takeOne _ _ ⟨fun q => absurd q c2, fun _ => sX12_takeOne_17 _ ⟨fun _ => sX12_takeOne_34 _ ⟨fun q => absurd q c2, fun _ => sX12_takeOne_51 _ _ _ ?_⟩, fun q => absurd q c⟩⟩
  rw [h7, Int.add_zero, w32_n (i := i) (by omega), upm_id h7]
  exact ⟨fun q => absurd q c2, fun _ => ⟨_, rfl, rfl, rfl⟩⟩
theorem m_takeOne {a m : Nat} (h : RS V t L N i) (hL : L ≤ 1000) (h8 : V 369 8 = 0) (ha : a + m ≤ 19) : Mi K (d + 2) mX12_takeOne [vR 369, vI (a : Int), vI (m : Int)] V (fun z V' => (whT (cT t L i) a m < 0 ∧ z = 0 ∧ V' = upm V 369 8 (ftT t L i 1)) ∨ (0 ≤ whT (cT t L i) a m ∧ z = whT (cT t L i) a m ∧ V' = upm V 369 7 ((i + 1 : Nat) : Int))) := by
  have h' := h
  obtain ⟨a1, a2, a3, a4, a5⟩ := h'
  have b1 := (a4 i a2).1
  have h8' : V 369 8 ≤ 0 := by omega
  refine sX12_takeOne _ _ ⟨fun _ => (m_wordHere (d := d) h ha h8).use ?_, fun q => absurd h8' q⟩
  refine sX12_takeOne_17 _ ⟨fun q => absurd h8 q, fun _ => ⟨fun c => ?_, fun c => ⟨fun q => absurd h8 q, fun _ => ?_⟩⟩⟩
  · refine sX12_takeOne_34 _ ⟨fun _ => sX12_takeOne_51 _ _ _ ?_, fun q => absurd h8' q⟩
    rw [a1, w32_s (i := i) (by omega), upm_k (by decide), h8]
    exact ⟨fun _ => ⟨_, rfl, Or.inr ⟨c, rfl, rfl⟩⟩, fun q => absurd (Int.le_refl _) q⟩
  · rw [a1, tn, b1, ftT_w hL (by omega)]
    have hp := ft_pos (t := t) (L := L) (i := i) (w := 1) (by omega)
    refine ⟨⟨by omega, by omega⟩, sX12_takeOne_34 _ ?_⟩
    rw [upm_s, upm_k (show (7 : Nat) ≠ 8 by decide), a1]
    refine ⟨fun q => by omega, fun _ => sX12_takeOne_51 _ _ _ ?_⟩
    rw [Int.add_zero, w32_n (i := i) (by omega), upm_id (show (upm V 369 8 (ftT t L i 1)) 369 7 = (i : Int) by rw [upm_k (by decide)]; exact a1), upm_s]
    exact ⟨fun q => by omega, fun _ => ⟨0, rfl, Or.inl ⟨by omega, rfl, rfl⟩⟩⟩
theorem m_readName {a m : Nat} (h : RS V t L N i) (hL : L ≤ 1000) (hP : psT t L N = L) (h8 : V 369 8 = 0) (hg : gT t L i ≠ 0) (hN : MN V t L R B rI bI) (ha : a ≤ 4) (hm : m ≤ 4) : Mv K (d + 3) mX12_readName [vR 369, vI (a : Int), vI (m : Int)] V (fun V' => (m = 4 ∧ V' = upm V 369 8 (ftT t L i 5)) ∨ (m ≠ 4 ∧ nnF R B rI bI t L (i + 1) ≠ 0 ∧ V' = upm (upm V 369 7 ((i + 1 : Nat) : Int)) 369 8 (nnF R B rI bI t L (i + 1))) ∨ (m ≠ 4 ∧ nnF R B rI bI t L (i + 1) = 0 ∧ nmT t L (i + 1) = true ∧ V' = upm (upm (upm V 369 7 ((i + 1 : Nat) : Int)) 377 (8 + a + m) (wT 37 t L (i + 1))) 369 7 ((i + 2 : Nat) : Int))) := by
  have h' := h
  obtain ⟨a1, a2, a3, a4, a5⟩ := h'
  have b1 := (a4 i a2).1
  have hi1 := tk_nx hP a2 hg
  refine sX12_readName _ _ ⟨fun c => ?_, fun c => ⟨fun q => absurd h8 q, fun _ => ?_⟩⟩
  · rw [a1, w32_s (i := i) (by omega)]
    generalize hX : upm V 369 7 ((i + 1 : Nat) : Int) = X
    have x7 : X 369 7 = ((i + 1 : Nat) : Int) := by rw [← hX, upm_s]
    have x8 : X 369 8 = 0 := by rw [← hX, upm_k (by decide)]; exact h8
    have xs : RS X t L N (i + 1) := h.mov x7 hi1 (by rw [← hX, upm_off 371 (by decide)]) (by rw [← hX, upm_off 372 (by decide)]) (by rw [← hX, upm_off 373 (by decide)]) (by rw [← hX, upm_off 374 (by decide)])
    have x375 : X 375 = V 375 := by rw [← hX, upm_off 375 (by decide)]
    have x377 : X 377 = V 377 := by rw [← hX, upm_off 377 (by decide)]
    clear hX
    obtain ⟨n1, n2, n3, n4, n5, n6⟩ := hN
    have xb := (xs.2.2.2.1 (i + 1) hi1).1
    have cm : m ≠ 4 := by omega
    -- behind a fault
    have out : ∀ w : Int, 0 < w → nnF R B rI bI t L (i + 1) = ftT t L (i + 1) w → Wf K (d + 3) mX12_readName 69 [some (vR 369), some (vI (a : Int)), some (vI (m : Int))] [] (upm X 369 8 (ftT t L (i + 1) w)) (fun r V' => r = none ∧ ((m = 4 ∧ V' = upm V 369 8 (ftT t L i 5)) ∨ (m ≠ 4 ∧ nnF R B rI bI t L (i + 1) ≠ 0 ∧ V' = upm X 369 8 (nnF R B rI bI t L (i + 1))) ∨ (m ≠ 4 ∧ nnF R B rI bI t L (i + 1) = 0 ∧ nmT t L (i + 1) = true ∧ V' = upm (upm X 377 (8 + a + m) (wT 37 t L (i + 1))) 369 7 ((i + 2 : Nat) : Int)))) := by
      intro w hw e
      refine sX12_readName_69 _ _ ?_
      rw [upm_s, e]
      exact ⟨fun _ => ⟨rfl, Or.inr (Or.inl ⟨cm, ft_nz hw, rfl⟩)⟩, fun q => absurd q (ft_nz hw)⟩
    refine (m_isName (d := d) xs x8).use ?_
    by_cases cn : nmT t L (i + 1) = true
    · rw [if_pos cn]
      have g2 : gT t L (i + 1) = 2 := (of_decide_eq_true cn).1
      refine ⟨fun _ => ?_, fun q => absurd q (by decide)⟩
      have e140 : (w32 (140 + 0)).toNat = 140 := by decide
      have e141 : (w32 (140 + 1)).toNat = 141 := by decide
      have told : Wf K (d + 3) mX12_readName 64 [some (vR 369), some (vI (a : Int)), some (vI (m : Int))] [] X (fun r V' => r = none ∧ ((m = 4 ∧ V' = upm V 369 8 (ftT t L i 5)) ∨ (m ≠ 4 ∧ nnF R B rI bI t L (i + 1) ≠ 0 ∧ V' = upm X 369 8 (nnF R B rI bI t L (i + 1))) ∨ (m ≠ 4 ∧ nnF R B rI bI t L (i + 1) = 0 ∧ nmT t L (i + 1) = true ∧ V' = upm (upm X 377 (8 + a + m) (wT 37 t L (i + 1))) 369 7 ((i + 2 : Nat) : Int)))) ∨ ¬ dpT R B rI bI t L (i + 1) = true := by
        by_cases dq : dpT R B rI bI t L (i + 1) = true
        · refine Or.inl (sX12_readName_64 _ _ ⟨fun q => absurd x8 q, fun _ => ?_⟩)
          rw [x7, tn, xb, ftT_w hL (by omega)]
          exact ⟨⟨by omega, by omega⟩, out 3 (by omega) (by unfold nnF; rw [if_pos cn, if_pos dq])⟩
        · exact Or.inr dq
      rw [e140, x375, n1]
      refine ⟨by decide, (m_nameAt (d := d + 2) (a := 8) (m := R) xs g2 (by omega)).use ?_⟩
      have q1 : fsN (fun k => X 377 (8 + k)) (wT 37 t L (i + 1)) R = fsN (fun r => wT 37 t L (rI r + 1)) (wT 37 t L (i + 1)) R := fsN_congr R (fun k hk => by rw [x377]; exact n5 k hk)
      have q2 : fsN (fun k => X 377 (12 + k)) (wT 37 t L (i + 1)) B = fsN (fun r => wT 37 t L (bI r + 1)) (wT 37 t L (i + 1)) B := fsN_congr B (fun k hk => by rw [x377]; exact n6 k hk)
      rw [q1]
      have v1 := fsN_v (f := fun r => wT 37 t L (rI r + 1)) (e := wT 37 t L (i + 1)) R
      have v2 := fsN_v (f := fun r => wT 37 t L (bI r + 1)) (e := wT 37 t L (i + 1)) B
      refine ⟨fun c1 => told.elim id (fun x => absurd (decide_eq_true (Or.inl (by omega))) x), fun c1 => ?_⟩
      rw [e141, x375, n2]
      refine ⟨by decide, (m_nameAt (d := d + 2) (a := 12) (m := B) xs g2 (by omega)).use ?_⟩
      rw [q2]
      refine ⟨fun c2 => ?_, fun c2 => told.elim id (fun x => absurd (decide_eq_true (Or.inr (by omega))) x)⟩
      have z1 : fsN (fun r => wT 37 t L (rI r + 1)) (wT 37 t L (i + 1)) R = -1 := by rcases v1 with ⟨v, _⟩ | ⟨s, v, _⟩ <;> omega
      have z2 : fsN (fun r => wT 37 t L (bI r + 1)) (wT 37 t L (i + 1)) B = -1 := by rcases v2 with ⟨v, _⟩ | ⟨s, v, _⟩ <;> omega
      have e0 : nnF R B rI bI t L (i + 1) = 0 := by unfold nnF; rw [if_pos cn, if_neg (fun x => (of_decide_eq_true x).elim (fun y => y z1) (fun y => y z2))]
      have hv : X 373 (i + 1) = wT 37 t L (i + 1) := (xs.2.2.2.1 (i + 1) hi1).2.2.1 g2
      refine sX12_readName_69 _ _ ⟨fun q => absurd x8 q, fun _ => ?_⟩
      rw [upm_off 369 (by decide), x7, tn, hv, ix85a (show a + m ≤ 100 by omega), tn, w32_s (i := i + 1) (by omega)]
      exact ⟨⟨by omega, by omega⟩, ⟨by omega, by omega⟩, rfl, Or.inr (Or.inr ⟨cm, e0, cn, rfl⟩)⟩
    · rw [if_neg cn]
      refine ⟨fun q => absurd rfl q, fun _ => ⟨fun q => absurd x8 q, fun _ => ?_⟩⟩
      rw [x7, tn, xb, ftT_w hL (by omega)]
      exact ⟨⟨by omega, by omega⟩, out 1 (by omega) (if_neg cn)⟩
  · rw [a1, tn, b1, ftT_w hL (by omega)]
    exact ⟨⟨by omega, by omega⟩, rfl, Or.inl ⟨by omega, rfl⟩⟩
end MNM
