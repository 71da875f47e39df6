/-! ===== lines of a work ===== -/
/-- what lies still while a tape is read -/
def TE (V : Mem) (t : Nat → Int) (L : Nat) : Prop := L ≤ 1000 ∧ (∀ i, i < L → V 2 i = t i) ∧ (∀ k, k < 19 → V 3 k = kw32 k) ∧ ∀ i, i < L → 0 ≤ t i ∧ t i ≤ 126
theorem TE.congr {V V' : Mem} {t : Nat → Int} {L : Nat} (h : TE V t L) (h2 : V' 2 = V 2) (h3 : V' 3 = V 3) : TE V' t L := by
  unfold TE
  rw [h2, h3]
  exact h
/-- the class stands at the token i -/
def XA (V : Mem) (t : Nat → Int) (L i : Nat) : Prop := V 1 2 = (L : Nat) ∧ V 1 3 = (bpT t L (i + 1) : Nat) ∧ V 1 4 = (gT t L i : Nat) ∧ V 1 5 = (psT t L i : Nat) ∧ V 1 7 = cT t L i ∧ (gT t L i = 3 → V 1 6 = nT t L i) ∧ (gT t L i = 2 → V 1 8 = wT 32 t L i)
theorem XA.congr {V V' : Mem} {t : Nat → Int} {L i : Nat} (h : XA V t L i) (h1 : V' 1 = V 1) : XA V' t L i := by
  unfold XA
  rw [h1]
  exact h
/-- the last of n places with e, or -1 -/
def fsN (f : Nat → Int) (e : Int) : Nat → Int
  | 0 => -1
  | n + 1 => if f n = e then (n : Int) else fsN f e n
theorem fsN_v {f : Nat → Int} {e : Int} : ∀ n, (fsN f e n = -1 ∧ ∀ s, s < n → f s ≠ e) ∨ ∃ s : Nat, fsN f e n = (s : Int) ∧ s < n ∧ f s = e
  | 0 => Or.inl ⟨rfl, fun s hs => by omega⟩
  | n + 1 => by
    have q : fsN f e (n + 1) = if f n = e then (n : Int) else fsN f e n := rfl
    by_cases c : f n = e
    · rw [q, if_pos c]
      exact Or.inr ⟨n, rfl, by omega, c⟩
    · rw [q, if_neg c]
      rcases fsN_v (f := f) (e := e) n with ⟨h1, h2⟩ | ⟨s, h1, h2, h3⟩
      · refine Or.inl ⟨h1, fun s hs => ?_⟩
        by_cases x : s = n
        · rw [x]; exact c
        · exact h2 s (by omega)
      · exact Or.inr ⟨s, h1, by omega, h3⟩
/-- the class finds the first by fives, the reference the last by sevens: no name is there twice -/
theorem fs_same {f g : Nat → Int} {x y z : Int} {n : Nat} (hn : ∀ r, r < n → nmC (f r) (g r)) (hu : ∀ r s, r < n → s < n → g r = g s → r = s) (hxy : nmC x y) (h : isFst f n x z) : z = fsN g y n := by
  rcases h with ⟨h1, h2⟩ | ⟨s, h1, h2, h3, h4⟩ <;> rcases fsN_v (f := g) (e := y) n with ⟨k1, k2⟩ | ⟨r, k1, k2, k3⟩
  · rw [h1, k1]
  · exact absurd ((nm_iff (hn r k2) hxy).2 k3) (h2 r k2)
  · exact absurd ((nm_iff (hn s h2) hxy).1 h3) (k2 s h2)
  · rw [h1, k1, hu s r h2 k2 (by rw [k3]; exact (nm_iff (hn s h2) hxy).1 h3)]
theorem ix74a {a k : Nat} (h : a + k < 1000) : w32 ((a : Int) + (k : Int)) = ((a + k : Nat) : Int) := by rw [w32_id (by omega) (by omega)]; omega
theorem ix74b {i : Nat} (h : i ≤ 1001) : w32 (((i + 1 : Nat) : Int) - 1) = (i : Int) := by rw [w32_id (by omega) (by omega)]; omega
theorem ix74c {x : Int} (h : 0 ≤ x ∧ x ≤ 9999) : w32 x = x := w32_id (by omega) (by omega)
section LNE
variable {K : KK} {d : Nat} {V : Mem} {t : Nat → Int} {L N i : Nat}
theorem c_adv (hS : TSg K (d + 1)) (hE : TE V t L) (h2 : V 1 2 = (L : Nat)) (h3 : V 1 3 = (bpT t L i : Nat)) : Mv K (d + 2) mX9_advance [vR 1] V (fun V' => (∀ c, c ≠ 1 → V' c = V c) ∧ XA V' t L i) := by
  have hT : Tap V t L (bpT t L i) := ⟨h2, h3, (psT_le (t := t) (L := L) i).1, hE.1, hE.2.1⟩
  exact c_advance hS hT hE.2.2.1 hE.2.2.2
theorem ftX {w : Int} (hE : TE V t L) (h : XA V t L i) (hw : 0 ≤ w ∧ w ≤ 9) : w32 (w + w32 (16 * V 1 5)) = ftT t L i w := by
  rw [h.2.2.2.1]
  exact ftT_w hE.1 hw
theorem c_isName (h : XA V t L i) : Pu K d mX9_isName [vR 1] V (if nmT t L i = true then 1 else 0) := by
  obtain ⟨a1, a2, a3, a4, a5, a6, a7⟩ := h
  refine sX9_isName ?_
  rw [a3, a5]
  refine ⟨fun c => ⟨0, rfl, ?_, rfl⟩, fun c => ⟨fun c2 => ⟨1, rfl, ?_, rfl⟩, fun c2 => ⟨fun c3 => ⟨0, rfl, ?_, rfl⟩, fun c3 => ⟨1, rfl, ?_, rfl⟩⟩⟩⟩
  · rw [if_neg (fun q => by have := (of_decide_eq_true q).1; omega)]
  · rw [if_pos (show nmT t L i = true from decide_eq_true ⟨by omega, by omega⟩)]
  · rw [if_neg (fun q => by have := (of_decide_eq_true q).2; omega)]
  · rw [if_pos (show nmT t L i = true from decide_eq_true ⟨by omega, by omega⟩)]
theorem c_rowNamed {a R : Nat} (h0 : IsStore a) (hR : V a 5 = (R : Nat)) (h4 : R ≤ 4) (x : Int) : Mi K d mX7_rowNamed [vR a, vJ x] V (fun z V' => isFst (fun r => V (a + 6 + 2 * r) 1) R x z ∧ V' = V) := by
  refine sX7_rowNamed a x h0 ?_
  have wqA : ∀ r, r ≤ R → (∀ s, s < r → V (a + 6 + 2 * s) 1 ≠ x) → Wf K d mX7_rowNamed 2 [some (vR a), some (vJ x), none, some (vI (r : Int))] [] V (fun o V' => ∃ z, o = some (vI z) ∧ isFst (fun r => V (a + 6 + 2 * r) 1) R x z ∧ V' = V) := by
    refine up_ind ?_ ?_
    · intro hs
      refine sX7_rowNamed_2 a x _ h0 ?_
      rw [hR]
      exact ⟨fun _ => ⟨_, rfl, Or.inl ⟨rfl, hs⟩, rfl⟩, fun c => absurd (Int.le_refl _) c⟩
    · intro r hr ih hs
      refine sX7_rowNamed_2 a x _ h0 ?_
      rw [hR, tn, lc0, w32_s (i := r) (by omega)]
      refine ⟨fun c => by omega, fun _ => ⟨⟨by omega, by omega⟩, fun c => ih (fun s q => ?_), fun c => ⟨_, rfl, Or.inr ⟨r, rfl, hr, c, hs⟩, rfl⟩⟩⟩
      by_cases e : s = r
      · rw [e]; exact c
      · exact hs s (by omega)
  exact wqA 0 (Nat.zero_le _) (fun s hs => by omega)
theorem c_braidNamed {a R : Nat} (h0 : IsStore a) (hR : V a 6 = (R : Nat)) (h4 : R ≤ 8) (x : Int) : Mi K d mX7_braidNamed [vR a, vJ x] V (fun z V' => isFst (fun r => V (a + 14 + 2 * r) 1) R x z ∧ V' = V) := by
  refine sX7_braidNamed a x h0 ?_
  have wqA : ∀ r, r ≤ R → (∀ s, s < r → V (a + 14 + 2 * s) 1 ≠ x) → Wf K d mX7_braidNamed 2 [some (vR a), some (vJ x), none, some (vI (r : Int))] [] V (fun o V' => ∃ z, o = some (vI z) ∧ isFst (fun r => V (a + 14 + 2 * r) 1) R x z ∧ V' = V) := by
    refine up_ind ?_ ?_
    · intro hs
      refine sX7_braidNamed_2 a x _ h0 ?_
      rw [hR]
      exact ⟨fun _ => ⟨_, rfl, Or.inl ⟨rfl, hs⟩, rfl⟩, fun c => absurd (Int.le_refl _) c⟩
    · intro r hr ih hs
      refine sX7_braidNamed_2 a x _ h0 ?_
      rw [hR, tn, lc0, w32_s (i := r) (by omega)]
      refine ⟨fun c => by omega, fun _ => ⟨⟨by omega, by omega⟩, fun c => ih (fun s q => ?_), fun c => ⟨_, rfl, Or.inr ⟨r, rfl, hr, c, hs⟩, rfl⟩⟩⟩
      by_cases e : s = r
      · rw [e]; exact c
      · exact hs s (by omega)
  exact wqA 0 (Nat.zero_le _) (fun s hs => by omega)
theorem m_nameAt {a m : Nat} (h : RS V t L N i) (hi : gT t L i = 2) (ha : a + m ≤ 16) : Pu K d mX12_nameAt [vR 369, vI (a : Int), vI (m : Int)] V (fsN (fun k => V 377 (a + k)) (wT 37 t L i) m) := by
  obtain ⟨a1, a2, a3, a4, a5⟩ := h
  obtain ⟨b1, b2, b3, b4, b5⟩ := a4 i a2
  have hv : V 373 i = wT 37 t L i := b3 hi
  refine sX12_nameAt _ _ ?_
  have wqA : ∀ k, k ≤ m → Wf K d mX12_nameAt 5 [some (vR 369), some (vI (a : Int)), some (vI (m : Int)), some (vI (fsN (fun k => V 377 (a + k)) (wT 37 t L i) k)), some (vI (k : Int))] [] V (fun r V' => ∃ z, r = some (vI z) ∧ z = fsN (fun k => V 377 (a + k)) (wT 37 t L i) m ∧ V' = V) := by
    refine up_ind ?_ ?_
    · exact sX12_nameAt_5 _ _ _ _ ⟨fun _ => ⟨_, rfl, rfl, rfl⟩, fun c => absurd (Int.le_refl _) c⟩
    · intro k hk ih
      refine sX12_nameAt_5 _ _ _ _ ⟨fun c => by omega, fun _ => ?_⟩
      rw [ix74a (show a + k < 1000 by omega), w32_s (i := k) (by omega), a1, tn, tn, lc0, hv]
      have q : fsN (fun k => V 377 (a + k)) (wT 37 t L i) (k + 1) = if V 377 (a + k) = wT 37 t L i then (k : Int) else fsN (fun k => V 377 (a + k)) (wT 37 t L i) k := rfl
      have o1 : 0 ≤ ((a + k : Nat) : Int) ∧ ((a + k : Nat) : Int) < (16 : Nat) := by clear q; omega
      have o2 : 0 ≤ (i : Int) ∧ (i : Int) < (1002 : Nat) := by clear q; omega
      refine ⟨o1, o2, fun c => ?_, fun c => ?_⟩
      · rw [q, if_neg c] at ih
        exact ih
      · rw [q, if_pos c] at ih
        exact ih
  exact wqA 0 (Nat.zero_le _)
theorem m_takeNumber0 {lo hi : Int} (h8 : 0 < V 369 8) : Pu K (d + 1) mX12_takeNumber [vR 369, vI lo, vI hi] V 0 := by
  have c : ¬ V 369 8 = 0 := by omega
  have c2 : ¬ V 369 8 ≤ 0 := by omega
  exact sX12_takeNumber _ _ ⟨fun _ => sX12_takeNumber_28 _ _ ⟨fun _ => sX12_takeNumber_70 ⟨fun q => absurd q c2, fun _ => ⟨_, rfl, rfl, rfl⟩⟩, fun q => absurd q c⟩, fun q => absurd q c⟩
theorem ft_pos {w : Int} (hw : 0 < w) : 0 < ftT t L i w := by unfold ftT; omega
theorem m_takeNumber {hi : Int} (h : RS V t L N i) (hL : L ≤ 1000) (h8 : V 369 8 = 0) : Mi K (d + 1) mX12_takeNumber [vR 369, vI 0, vI hi] V (fun z V' => (gT t L i ≠ 3 ∧ z = 0 ∧ V' = upm V 369 8 (ftT t L i 1)) ∨ (gT t L i = 3 ∧ hi < nT t L i ∧ z = 0 ∧ V' = upm V 369 8 (ftT t L i 4)) ∨ (gT t L i = 3 ∧ nT t L i ≤ hi ∧ z = nT t L i ∧ V' = upm V 369 7 ((i + 1 : Nat) : Int))) := by
  obtain ⟨a1, a2, a3, a4, a5⟩ := h
  obtain ⟨b1, b2, b3, b4, b5⟩ := a4 i a2
  have b2' : V 371 i = 2 ↔ gT t L i = 3 := by rw [b2]; exact rso_n
  have l1 : ∀ x y : Int, b_lcmp x y < 0 ↔ x < y := fun x y => by
    unfold b_lcmp
    split
    · exact ⟨fun q => absurd q (by decide), fun q => by omega⟩
    · split
      · exact ⟨fun q => absurd q (by decide), fun q => by omega⟩
      · exact ⟨fun q => by omega, fun q => by decide⟩
  have l2 : ∀ x y : Int, b_lcmp x y ≤ 0 ↔ x ≤ y := fun x y => by
    unfold b_lcmp
    split
    · exact ⟨fun q => absurd q (by decide), fun q => by omega⟩
    · split
      · exact ⟨fun q => by omega, fun q => by decide⟩
      · exact ⟨fun q => by omega, fun q => by decide⟩
  refine sX12_takeNumber _ _ ⟨fun c => absurd h8 c, fun _ => ?_⟩
  rw [a1, tn]
  refine ⟨⟨by omega, by omega⟩, fun c => ?_, fun c => ⟨fun q => absurd h8 q, fun _ => ⟨⟨by omega, by omega⟩, ?_⟩⟩⟩
  · have g3 : gT t L i = 3 := b2'.1 c
    have hn := tk_n g3
    have hv : V 373 i = nT t L i := b4 g3
    refine sX12_takeNumber_28 _ _ ⟨fun c => absurd h8 c, fun _ => ?_⟩
    rw [a1, tn, l1, l2, hv]
    have hn' : 0 ≤ nT t L i ∧ nT t L i ≤ 9999 := hn
    have bad : hi < nT t L i → Wf K (d + 1) mX12_takeNumber 65 [some (vR 369), none, none] [] V (fun r V' => ∃ z, r = some (vI z) ∧ ((gT t L i ≠ 3 ∧ z = 0 ∧ V' = upm V 369 8 (ftT t L i 1)) ∨ (gT t L i = 3 ∧ hi < nT t L i ∧ z = 0 ∧ V' = upm V 369 8 (ftT t L i 4)) ∨ (gT t L i = 3 ∧ nT t L i ≤ hi ∧ z = nT t L i ∧ V' = upm V 369 7 ((i + 1 : Nat) : Int)))) := fun q => by
      refine sX12_takeNumber_65 ⟨fun c => absurd h8 c, fun _ => ?_⟩
      rw [a1, tn, b1, ftT_w hL (by omega)]
      refine ⟨⟨by omega, by omega⟩, sX12_takeNumber_70 ?_⟩
      rw [upm_s]
      have := ft_pos (t := t) (L := L) (i := i) (w := 4) (by omega)
      exact ⟨fun q => by omega, fun _ => ⟨0, rfl, Or.inr (Or.inl ⟨g3, q, rfl, rfl⟩)⟩⟩
    refine ⟨⟨by omega, by omega⟩, fun q => by omega, fun _ => ⟨⟨by omega, by omega⟩, fun q => sX12_takeNumber_70 ⟨fun _ => ?_, fun q2 => absurd (by rw [h8]; exact Int.le_refl _) q2⟩, fun q => bad (by omega)⟩⟩
    rw [a1, w32_s (i := i) (by omega), upm_s, ix74b (i := i) (by omega), tn, upm_off 373 (by decide), hv, ix74c hn']
    exact ⟨⟨by omega, by omega⟩, _, rfl, Or.inr (Or.inr ⟨g3, q, rfl, rfl⟩)⟩
  · rw [b1, ftT_w hL (by omega)]
    refine sX12_takeNumber_70 ?_
    rw [upm_s]
    have := ft_pos (t := t) (L := L) (i := i) (w := 1) (by omega)
    exact ⟨fun q => by omega, fun _ => ⟨0, rfl, Or.inl ⟨fun q => c (b2'.2 q), rfl, rfl⟩⟩⟩
theorem m_takeTold0 {x y : Int} (h8 : 0 < V 369 8) (h7 : V 369 7 = (i : Int)) (hi : i ≤ 1001) : Pu K (d + 1) mX12_takeTold [vR 369, vI x, vI y] V 0 := by
  have c : ¬ V 369 8 = 0 := by omega
  have c2 : ¬ V 369 8 ≤ 0 := by omega
  refine sX12_takeTold _ _ ⟨fun _ => sX12_takeTold_19 _ _ ⟨fun q => absurd q c2, fun _ => sX12_takeTold_36 _ ⟨fun _ => sX12_takeTold_53 _ ⟨fun q => absurd q c2, fun _ => sX12_takeTold_70 _ _ _ ?_⟩, fun q => absurd q c⟩⟩, fun q => absurd q c⟩
  rw [h7, Int.add_zero, w32_n (i := i) (by omega), upm_id h7]
  exact ⟨fun q => absurd q c2, fun _ => ⟨_, rfl, rfl, rfl⟩⟩
theorem m_takeTold {a m : Nat} (h : RS V t L N i) (hL : L ≤ 1000) (h8 : V 369 8 = 0) (ha : a + m ≤ 16) : Mi K (d + 3) mX12_takeTold [vR 369, vI (a : Int), vI (m : Int)] V (fun z V' => (nmT t L i = false ∧ z = 0 ∧ V' = upm V 369 8 (ftT t L i 1)) ∨ (nmT t L i = true ∧ fsN (fun k => V 377 (a + k)) (wT 37 t L i) m = -1 ∧ z = 0 ∧ V' = upm V 369 8 (ftT t L i 2)) ∨ (nmT t L i = true ∧ fsN (fun k => V 377 (a + k)) (wT 37 t L i) m ≠ -1 ∧ z = fsN (fun k => V 377 (a + k)) (wT 37 t L i) m ∧ V' = upm V 369 7 ((i + 1 : Nat) : Int))) := by
  have h' := h
  obtain ⟨a1, a2, a3, a4, a5⟩ := h'
  obtain ⟨b1, b2, b3, b4, b5⟩ := a4 i a2
  refine sX12_takeTold _ _ ⟨fun c => absurd h8 c, fun _ => (m_isName (d := d) h h8).use ?_⟩
  -- a fault, to the end
  have out : ∀ (w s : Int) (V' : Mem), 0 < w → V' = upm V 369 8 (ftT t L i w) → Wf K (d + 3) mX12_takeTold 53 [some (vR 369), none, none, some (vI s)] [] V' (fun r W => r = some (vI 0) ∧ W = V') := by
    intro w s V' hw e
    have p8 : V' 369 8 = ftT t L i w := by rw [e, upm_s]
    have p7 : V' 369 7 = (i : Int) := by rw [e, upm_k (by decide)]; exact a1
    have := ft_pos (t := t) (L := L) (i := i) hw
    refine sX12_takeTold_53 _ ⟨fun q => by omega, fun _ => sX12_takeTold_70 _ _ _ ?_⟩
    rw [p7, Int.add_zero, w32_n (i := i) (by omega), upm_id p7]
    exact ⟨fun q => by omega, fun _ => ⟨rfl, rfl⟩⟩
  by_cases c : nmT t L i = true
  · rw [if_pos c]
    have g2 : gT t L i = 2 := (of_decide_eq_true c).1
    refine ⟨fun _ => sX12_takeTold_19 _ _ ⟨fun _ => (m_nameAt (d := d + 2) h g2 ha).use ?_, fun q => absurd (by rw [h8]; exact Int.le_refl _) q⟩, fun q => absurd q (by decide)⟩
    refine sX12_takeTold_36 _ ⟨fun c => absurd h8 c, fun _ => ?_⟩
    rcases fsN_v (f := fun k => V 377 (a + k)) (e := wT 37 t L i) m with ⟨k1, k2⟩ | ⟨s, k1, k2, k3⟩
    · rw [k1]
      refine ⟨fun q => absurd q (by decide), fun _ => ⟨fun c => absurd h8 c, fun _ => ?_⟩⟩
      rw [a1, tn, b1, ftT_w hL (by omega)]
      exact ⟨⟨by omega, by omega⟩, (out 2 _ _ (by omega) rfl).imp (fun r W q => ⟨0, q.1, Or.inr (Or.inl ⟨c, rfl, rfl, q.2⟩)⟩)⟩
    · rw [k1]
      refine ⟨fun _ => sX12_takeTold_53 _ ⟨fun _ => sX12_takeTold_70 _ _ _ ?_, fun q => absurd (by rw [h8]; exact Int.le_refl _) q⟩, fun q => by omega⟩
      rw [a1, w32_s (i := i) (by omega), upm_k (by decide), h8]
      exact ⟨fun _ => ⟨_, rfl, Or.inr (Or.inr ⟨c, by omega, rfl, rfl⟩)⟩, fun q => absurd (Int.le_refl _) q⟩
  · rw [if_neg c]
    refine ⟨fun q => absurd rfl q, fun _ => ⟨fun c => absurd h8 c, fun _ => ?_⟩⟩
    rw [a1, tn, b1, ftT_w hL (by omega)]
    have := ft_pos (t := t) (L := L) (i := i) (w := 1) (by omega)
    refine ⟨⟨by omega, by omega⟩, sX12_takeTold_19 _ _ ?_⟩
    rw [upm_s]
    refine ⟨fun q => by omega, fun _ => sX12_takeTold_36 _ ?_⟩
    rw [upm_s]
    exact ⟨fun _ => (out 1 _ _ (by omega) rfl).imp (fun r W q => ⟨0, q.1, Or.inl ⟨by cases x : nmT t L i; rfl; exact absurd x c, rfl, q.2⟩⟩), fun q => by omega⟩
end LNE
