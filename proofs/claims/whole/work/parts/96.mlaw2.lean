/-! ===== the reference's products, sums, tests, laws ===== -/
theorem dn_str {P : Nat → Prop} {N : Nat} (h : ∀ i, i ≤ N → (∀ j, i < j → j ≤ N → P j) → P i) : ∀ i, i ≤ N → P i := by
  have g : ∀ n i, i ≤ N → N < i + n → P i := by
    intro n
    induction n with
    | zero => intro i h1 h2; omega
    | succ n ih => intro i h1 h2; exact h i h1 (fun j h3 h4 => ih j h4 (by omega))
  exact fun i hi => g (N + 1) i hi (by omega)
theorem yrk_4 {c : Int} (h : yrk c = 4) : c = 42 := by
  rcases yrk_c (show yrk c ≠ 0 by omega) with q | q | q | q | q | q | q <;> first | exact q | (rw [q] at h; exact absurd h (by decide))
theorem yrk_3 {c : Int} (h : yrk c = 3) : c = 43 ∨ c = 45 := by
  rcases yrk_c (show yrk c ≠ 0 by omega) with q | q | q | q | q | q | q <;> first | exact Or.inl q | exact Or.inr q | (rw [q] at h; exact absurd h (by decide))
theorem yrk_2 {c : Int} (h : yrk c = 2) : c = 60 ∨ c = 61 := by
  rcases yrk_c (show yrk c ≠ 0 by omega) with q | q | q | q | q | q | q <;> first | exact Or.inl q | exact Or.inr q | (rw [q] at h; exact absurd h (by decide))
theorem yrk_1 {c : Int} (h : yrk c = 1) : c = 141 ∨ c = 142 := by
  rcases yrk_c (show yrk c ≠ 0 by omega) with q | q | q | q | q | q | q <;> first | exact Or.inl q | exact Or.inr q | (rw [q] at h; exact absurd h (by decide))
theorem em_b {X : Mem} {c : Nat} (h : X 369 12 = (c : Int)) (hc : c ≤ 1001) : (0 : Int) ≤ w32 (1100 + X 369 12) ∧ w32 (1100 + X 369 12) < (2200 : Nat) := by
  rw [h, w32_id (by omega) (by omega)]; omega
theorem em_eq {X : Mem} {c : Nat} {v : Int} (h : X 369 12 = (c : Int)) (hc : c ≤ 1001) : upm (upm X 376 (Int.toNat (w32 (1100 + X 369 12))) v) 369 12 (w32 ((upm X 376 (Int.toNat (w32 (1100 + X 369 12))) v) 369 12 + 1)) = emt X c v := by
  rw [upm_off 369 (by decide), h, w32_s (i := c) (by omega), w32_id (by omega) (by omega)]
  unfold emt
  rw [show (1100 + (c : Int)).toNat = 1100 + c by omega]
/-- behind a part -/
def LPt (r k : Nat) (t : Nat → Int) (L N i c : Nat) (V V' : Mem) : Prop := (∃ i' Q, LOk r r k t L N i c V V' i' Q) ∨ LBad r k t L N i c V V'
section MLB
variable {K : KK} {d k : Nat} {t : Nat → Int} {L N : Nat}
/-- one method's contract -/
def LCt (K : KK) (d : Nat) (y : MI) (r k : Nat) (t : Nat → Int) (L N : Nat) : Prop := ∀ (i c : Nat) (V : Mem), RS V t L N i → V 369 8 = 0 → V 369 12 = (c : Int) → c ≤ i → Mv K d y [vR 369, vI (k : Int)] V (LPt r k t L N i c V)
theorem LOk.cb {r s i c i1 : Nat} {V W : Mem} {Q : List (Int × Int)} (h : LOk r s k t L N i c V W i1 Q) (hc : c ≤ i) : c + Q.length ≤ i1 ∧ i1 ≤ 1000 := by
  have h1 := h.2.2.2.2.2.1
  have h2 := h.2.1.2.1
  have h3 := h.2.1.2.2.1
  omega
theorem m_products (hL : L ≤ 1000) (hP : psT t L N = L) (hT : LCt K (d + 2) mX12_takePart 5 k t L N) : LCt K (d + 3) mX12_products 4 k t L N := by
  intro i c V hs h8 h12 hc
  have hN := hs.2.2.1
  have bad : ∀ W : Mem, LBad 4 k t L N i c V W → Wf K (d + 3) mX12_products 5 [some (vR 369), some (vI (k : Int))] [] W (fun r V' => r = none ∧ LPt 4 k t L N i c V V') := by
    rintro W ⟨w1, ⟨j, c', j1, j2, j3⟩, w2, w3⟩
    exact sX12_products_5 _ ((m_hasSign0 (d := d + 1) (i := j) (by omega) j1 (by omega)).use ⟨fun _ => ⟨rfl, Or.inr ⟨w1, ⟨j, c', j1, j2, j3⟩, w2, w3⟩⟩, fun q => absurd rfl q⟩)
  have loop : ∀ i1, i1 ≤ N → ∀ (W : Mem) (Q : List (Int × Int)), LOk 4 5 k t L N i c V W i1 Q → Wf K (d + 3) mX12_products 5 [some (vR 369), some (vI (k : Int))] [] W (fun r V' => r = none ∧ LPt 4 k t L N i c V V') := by
    refine dn_str ?_
    intro i1 hi1 ih W Q ok
    obtain ⟨cb1, cb2⟩ := ok.cb hc
    have ws := ok.2.1
    refine sX12_products_5 _ ((m_hasSign (d := d + 1) ws (by decide) ok.2.2.1).use ?_)
    rintro z T ⟨z1, z2⟩
    by_cases q : cT t L i1 = 42
    · rw [if_pos q] at z1 z2
      rw [z1]
      refine ⟨fun x => absurd x (by decide), fun _ => ?_⟩
      have hn1 := tk_nx hP hi1 (c_g (by omega))
      have hr : yrk (cT t L i1) = 4 := by rw [q]; decide
      have ts : RS T t L N (i1 + 1) := by rw [z2]; exact (MLf.at7 (c := 0)).rs ws (upm_s _ _ _ _) hn1
      refine Mv.use (hT (i1 + 1) (c + Q.length) T ts (by rw [z2, upm_k (by decide)]; exact ok.2.2.1) (by rw [z2, upm_k (by decide)]; exact ok.2.2.2.1) (by omega)) ?_
      rintro X (⟨i2, Q2, ok2⟩ | b2)
      · obtain ⟨cb3, cb4⟩ := ok2.cb (by omega)
        have x12 := ok2.2.2.2.1
        have hi2 := ok2.2.2.2.2.2.1
        refine ⟨em_b x12 (by omega), ?_⟩
        rw [em_eq x12 (by omega)]
        rw [z2] at ok2
        have st := LOk.step hN (by omega) ok hr ok2
        have e6 : (yop (cT t L i1)).1 = w32 (6 + w32 (16 * 0)) := by rw [q]; decide
        rw [e6] at st
        exact ih i2 (by omega) ok2.2.1.2.1 _ _ st
      · obtain ⟨j, c', j1, j2, j3, j4, j5, j6⟩ := b2.2.1
        refine ⟨em_b j3 (by omega), ?_⟩
        rw [em_eq j3 (by omega)]
        rw [z2] at b2
        exact bad _ (LBad.step hN (by omega) ok hr b2 j3)
    · rw [if_neg q] at z1 z2
      rw [z1, z2]
      exact ⟨fun _ => ⟨rfl, Or.inl ⟨i1, Q, ok.out (fun x => q (yrk_4 x))⟩⟩, fun x => absurd rfl x⟩
  refine sX12_products _ (Mv.use (hT i c V hs h8 h12 hc) ?_)
  rintro W (⟨i1, Q, ok⟩ | b)
  · exact loop i1 ok.2.1.2.1 W Q ok.up
  · exact bad W b.up
theorem m_sums (hL : L ≤ 1000) (hP : psT t L N = L) (hT : LCt K (d + 3) mX12_products 4 k t L N) : LCt K (d + 4) mX12_sums 3 k t L N := by
  intro i c V hs h8 h12 hc
  have hN := hs.2.2.1
  have bad : ∀ W : Mem, LBad 3 k t L N i c V W → Wf K (d + 4) mX12_sums 5 [some (vR 369), some (vI (k : Int)), none] [] W (fun r V' => r = none ∧ LPt 3 k t L N i c V V') := by
    intro W w
    have w2 := w.2.2.1
    exact sX12_sums_5 _ ((m_isSign0 (by omega)).use ⟨fun q => absurd rfl q, fun _ => (m_isSign0 (by omega)).use ⟨fun _ => ⟨rfl, Or.inr w⟩, fun q => absurd rfl q⟩⟩)
  have loop : ∀ i1, i1 ≤ N → ∀ (W : Mem) (Q : List (Int × Int)), LOk 3 4 k t L N i c V W i1 Q → Wf K (d + 4) mX12_sums 5 [some (vR 369), some (vI (k : Int)), none] [] W (fun r V' => r = none ∧ LPt 3 k t L N i c V V') := by
    refine dn_str ?_
    intro i1 hi1 ih W Q ok
    obtain ⟨cb1, cb2⟩ := ok.cb hc
    have ws := ok.2.1
    -- an operator
    have on : (cT t L i1 = 43 ∨ cT t L i1 = 45) → Wf K (d + 4) mX12_sums 23 [some (vR 369), some (vI (k : Int)), none] [] W (fun r V' => r = none ∧ LPt 3 k t L N i c V V') := by
      intro q
      have hn1 := tk_nx hP hi1 (c_g (by omega))
      have hr : yrk (cT t L i1) = 3 := by rcases q with q | q <;> rw [q] <;> decide
      refine sX12_sums_23 _ ((m_isSign (d := d + 3) ws (by decide) ok.2.2.1).use ?_)
      rw [ws.1, w32_s (i := i1) (by omega)]
      have ts : RS (upm W 369 7 ((i1 + 1 : Nat) : Int)) t L N (i1 + 1) := (MLf.at7 (c := 0)).rs ws (upm_s _ _ _ _) hn1
      refine Mv.use (hT (i1 + 1) (c + Q.length) (upm W 369 7 ((i1 + 1 : Nat) : Int)) ts (by rw [upm_k (by decide)]; exact ok.2.2.1) (by rw [upm_k (by decide)]; exact ok.2.2.2.1) (by omega)) ?_
      intro X hX
      have put : ∀ s1 : Int, (yop (cT t L i1)).1 = w32 (s1 + w32 (16 * 0)) → Wf K (d + 4) mX12_sums 55 [some (vR 369), some (vI (k : Int)), none] [vI s1, vR 369] X (fun r V' => r = none ∧ LPt 3 k t L N i c V V') := by
        intro s1 es
        refine sX12_sums_55 _ _ ?_
        rcases hX with ⟨i2, Q2, ok2⟩ | b2
        · obtain ⟨cb3, cb4⟩ := ok2.cb (by omega)
          have x12 := ok2.2.2.2.1
          have hi2 := ok2.2.2.2.2.2.1
          refine ⟨em_b x12 (by omega), ?_⟩
          rw [em_eq x12 (by omega)]
          have st := LOk.step hN (by omega) ok hr ok2
          rw [es] at st
          exact ih i2 (by omega) ok2.2.1.2.1 _ _ st
        · obtain ⟨j, c', j1, j2, j3, j4, j5, j6⟩ := b2.2.1
          refine ⟨em_b j3 (by omega), ?_⟩
          rw [em_eq j3 (by omega)]
          exact bad _ (LBad.step hN (by omega) ok hr b2 j3)
      by_cases q43 : cT t L i1 = 43
      · rw [if_pos q43]
        exact ⟨fun x => absurd x (by decide), fun _ => put 4 (by rw [q43]; decide)⟩
      · rw [if_neg q43]
        have q45 : cT t L i1 = 45 := by omega
        exact ⟨fun _ => put 5 (by rw [q45]; decide), fun x => absurd rfl x⟩
    refine sX12_sums_5 _ ((m_isSign (d := d + 3) ws (by decide) ok.2.2.1).use ?_)
    by_cases q43 : cT t L i1 = 43
    · rw [if_pos q43]
      exact ⟨fun _ => on (Or.inl q43), fun x => absurd x (by decide)⟩
    · rw [if_neg q43]
      refine ⟨fun x => absurd rfl x, fun _ => (m_isSign (d := d + 3) ws (by decide) ok.2.2.1).use ?_⟩
      by_cases q45 : cT t L i1 = 45
      · rw [if_pos q45]
        exact ⟨fun x => absurd x (by decide), fun _ => on (Or.inr q45)⟩
      · rw [if_neg q45]
        exact ⟨fun _ => ⟨rfl, Or.inl ⟨i1, Q, ok.out (fun x => (yrk_3 x).elim q43 q45)⟩⟩, fun x => absurd rfl x⟩
  refine sX12_sums _ (Mv.use (hT i c V hs h8 h12 hc) ?_)
  rintro W (⟨i1, Q, ok⟩ | b)
  · exact loop i1 ok.2.1.2.1 W Q ok.up
  · exact bad W b.up
theorem m_test (hL : L ≤ 1000) (hP : psT t L N = L) (hT : LCt K (d + 4) mX12_sums 3 k t L N) : LCt K (d + 5) mX12_test 2 k t L N := by
  intro i c V hs h8 h12 hc
  have hN := hs.2.2.1
  refine sX12_test _ (Mv.use (hT i c V hs h8 h12 hc) ?_)
  rintro W (⟨i1, Q, ok⟩ | b)
  · obtain ⟨cb1, cb2⟩ := ok.cb hc
    have ws := ok.2.1
    have hi1 := ws.2.1
    -- behind the second sum
    have on : (cT t L i1 = 60 ∨ cT t L i1 = 61) → ∀ (s1 : Int), (yop (cT t L i1)).1 = w32 (s1 + w32 (16 * 0)) → ∀ X, LPt 3 k t L N (i1 + 1) (c + Q.length) (upm W 369 7 ((i1 + 1 : Nat) : Int)) X → ((0 : Int) ≤ w32 (1100 + X 369 12) ∧ w32 (1100 + X 369 12) < (2200 : Nat)) ∧ (none : Option AV) = none ∧ LPt 2 k t L N i c V (upm (upm X 376 (Int.toNat (w32 (1100 + X 369 12))) (w32 (s1 + w32 (16 * 0)))) 369 12 (w32 ((upm X 376 (Int.toNat (w32 (1100 + X 369 12))) (w32 (s1 + w32 (16 * 0)))) 369 12 + 1))) := by
      intro q s1 es X hX
      have hr : yrk (cT t L i1) = 2 := by rcases q with q | q <;> rw [q] <;> decide
      have hn1 := tk_nx hP hi1 (c_g (by omega))
      rcases hX with ⟨i2, Q2, ok2⟩ | b2
      · obtain ⟨cb3, cb4⟩ := ok2.cb (by omega)
        have x12 := ok2.2.2.2.1
        refine ⟨em_b x12 (by omega), rfl, ?_⟩
        rw [em_eq x12 (by omega), ← es]
        exact Or.inl ⟨i2, _, LOk.cmp hN ok hr ok2⟩
      · obtain ⟨j, c', j1, j2, j3, j4, j5, j6⟩ := b2.2.1
        refine ⟨em_b j3 (by omega), rfl, ?_⟩
        rw [em_eq j3 (by omega)]
        exact Or.inr (LBad.cmp hN ok hr b2 j3)
    have run : (cT t L i1 = 60 ∨ cT t L i1 = 61) → Mv K (d + 4) mX12_sums [vR 369, vI (k : Int)] (upm W 369 7 ((i1 + 1 : Nat) : Int)) (LPt 3 k t L N (i1 + 1) (c + Q.length) (upm W 369 7 ((i1 + 1 : Nat) : Int))) := by
      intro q
      have hn1 := tk_nx hP hi1 (c_g (by omega))
      exact hT (i1 + 1) (c + Q.length) (upm W 369 7 ((i1 + 1 : Nat) : Int)) ((MLf.at7 (c := 0)).rs ws (upm_s _ _ _ _) hn1) (by rw [upm_k (by decide)]; exact ok.2.2.1) (by rw [upm_k (by decide)]; exact ok.2.2.2.1) (by omega)
    refine (m_isSign (d := d + 4) ws (by decide) ok.2.2.1).use ((m_hasSign (d := d + 3) ws (by decide) ok.2.2.1).use ?_)
    rintro z T ⟨z1, z2⟩
    by_cases q60 : cT t L i1 = 60
    · rw [if_pos q60] at z1 z2
      rw [z1, z2, if_pos q60]
      refine ⟨fun _ => Mv.use (run (Or.inl q60)) ?_, fun x => absurd x (by decide)⟩
      intro X hX
      exact ⟨fun x => absurd x (by decide), fun _ => on (Or.inl q60) 7 (by rw [q60]; decide) X hX⟩
    · rw [if_neg q60] at z1 z2
      rw [z1, z2, if_neg q60]
      refine ⟨fun x => absurd rfl x, fun _ => (m_hasSign (d := d + 3) ws (by decide) ok.2.2.1).use ?_⟩
      rintro y Y ⟨y1, y2⟩
      by_cases q61 : cT t L i1 = 61
      · rw [if_pos q61] at y1 y2
        rw [y1, y2]
        refine ⟨fun x => absurd x (by decide), fun _ => Mv.use (run (Or.inr q61)) ?_⟩
        intro X hX
        exact ⟨fun _ => on (Or.inr q61) 8 (by rw [q61]; decide) X hX, fun x => absurd rfl x⟩
      · rw [if_neg q61] at y1 y2
        rw [y1, y2]
        exact ⟨fun _ => ⟨rfl, Or.inl ⟨i1, Q, ok.up.out (fun x => (yrk_2 x).elim q60 q61)⟩⟩, fun x => absurd rfl x⟩
  · have w2 := b.2.2.1
    obtain ⟨j, c', j1, j2, j3, j4, j5, j6⟩ := b.2.1
    refine (m_isSign0 (by omega)).use ((m_hasSign0 (d := d + 3) (i := j) (by omega) j1 (by omega)).use ⟨fun x => absurd rfl x, fun _ => (m_hasSign0 (d := d + 3) (i := j) (by omega) j1 (by omega)).use ⟨fun _ => ⟨rfl, Or.inr b.up⟩, fun x => absurd rfl x⟩⟩)
theorem m_allOf (hL : L ≤ 1000) (hP : psT t L N = L) (hT : LCt K (d + 5) mX12_test 2 k t L N) : LCt K (d + 6) mX12_allOf 1 k t L N := by
  intro i c V hs h8 h12 hc
  have hN := hs.2.2.1
  have bad : ∀ W : Mem, LBad 1 k t L N i c V W → Wf K (d + 6) mX12_allOf 5 [some (vR 369), some (vI (k : Int)), none] [] W (fun r V' => r = none ∧ LPt 1 k t L N i c V V') := by
    intro W w
    have w2 := w.2.2.1
    exact sX12_allOf_5 _ ((m_isWord0 (by omega)).use ⟨fun q => absurd rfl q, fun _ => (m_isWord0 (by omega)).use ⟨fun _ => ⟨rfl, Or.inr w⟩, fun q => absurd rfl q⟩⟩)
  have loop : ∀ i1, i1 ≤ N → ∀ (W : Mem) (Q : List (Int × Int)), LOk 1 2 k t L N i c V W i1 Q → Wf K (d + 6) mX12_allOf 5 [some (vR 369), some (vI (k : Int)), none] [] W (fun r V' => r = none ∧ LPt 1 k t L N i c V V') := by
    refine dn_str ?_
    intro i1 hi1 ih W Q ok
    obtain ⟨cb1, cb2⟩ := ok.cb hc
    have ws := ok.2.1
    -- an operator
    have on : (cT t L i1 = 141 ∨ cT t L i1 = 142) → Wf K (d + 6) mX12_allOf 23 [some (vR 369), some (vI (k : Int)), none] [] W (fun r V' => r = none ∧ LPt 1 k t L N i c V V') := by
      intro q
      have hn1 := tk_nx hP hi1 (c_g (by omega))
      have hr : yrk (cT t L i1) = 1 := by rcases q with q | q <;> rw [q] <;> decide
      refine sX12_allOf_23 _ ((m_isWord (d := d + 5) (k := 13) ws (by decide) ok.2.2.1).use ?_)
      rw [ws.1, w32_s (i := i1) (by omega)]
      have ts : RS (upm W 369 7 ((i1 + 1 : Nat) : Int)) t L N (i1 + 1) := (MLf.at7 (c := 0)).rs ws (upm_s _ _ _ _) hn1
      refine Mv.use (hT (i1 + 1) (c + Q.length) (upm W 369 7 ((i1 + 1 : Nat) : Int)) ts (by rw [upm_k (by decide)]; exact ok.2.2.1) (by rw [upm_k (by decide)]; exact ok.2.2.2.1) (by omega)) ?_
      intro X hX
      have put : ∀ s1 : Int, (yop (cT t L i1)).1 = w32 (s1 + w32 (16 * 0)) → Wf K (d + 6) mX12_allOf 57 [some (vR 369), some (vI (k : Int)), none] [vI s1, vR 369] X (fun r V' => r = none ∧ LPt 1 k t L N i c V V') := by
        intro s1 es
        refine sX12_allOf_57 _ _ ?_
        rcases hX with ⟨i2, Q2, ok2⟩ | b2
        · obtain ⟨cb3, cb4⟩ := ok2.cb (by omega)
          have x12 := ok2.2.2.2.1
          have hi2 := ok2.2.2.2.2.2.1
          refine ⟨em_b x12 (by omega), ?_⟩
          rw [em_eq x12 (by omega)]
          have st := LOk.step hN (by omega) ok hr ok2
          rw [es] at st
          exact ih i2 (by omega) ok2.2.1.2.1 _ _ st
        · obtain ⟨j, c', j1, j2, j3, j4, j5, j6⟩ := b2.2.1
          refine ⟨em_b j3 (by omega), ?_⟩
          rw [em_eq j3 (by omega)]
          exact bad _ (LBad.step hN (by omega) ok hr b2 j3)
      by_cases q13 : cT t L i1 = 128 + ((13 : Nat) : Int)
      · rw [if_pos q13]
        have q' : cT t L i1 = 141 := by omega
        exact ⟨fun x => absurd x (by decide), fun _ => put 9 (by rw [q']; decide)⟩
      · rw [if_neg q13]
        have q' : cT t L i1 = 142 := by omega
        exact ⟨fun _ => put 10 (by rw [q']; decide), fun x => absurd rfl x⟩
    refine sX12_allOf_5 _ ((m_isWord (d := d + 5) (k := 13) ws (by decide) ok.2.2.1).use ?_)
    by_cases q13 : cT t L i1 = 128 + ((13 : Nat) : Int)
    · rw [if_pos q13]
      exact ⟨fun _ => on (Or.inl (by omega)), fun x => absurd x (by decide)⟩
    · rw [if_neg q13]
      refine ⟨fun x => absurd rfl x, fun _ => (m_isWord (d := d + 5) (k := 14) ws (by decide) ok.2.2.1).use ?_⟩
      by_cases q14 : cT t L i1 = 128 + ((14 : Nat) : Int)
      · rw [if_pos q14]
        exact ⟨fun x => absurd x (by decide), fun _ => on (Or.inr (by omega))⟩
      · rw [if_neg q14]
        exact ⟨fun _ => ⟨rfl, Or.inl ⟨i1, Q, ok.out (fun x => by have := yrk_1 x; omega)⟩⟩, fun x => absurd rfl x⟩
  refine sX12_allOf _ (Mv.use (hT i c V hs h8 h12 hc) ?_)
  rintro W (⟨i1, Q, ok⟩ | b)
  · exact loop i1 ok.2.1.2.1 W Q ok.up
  · exact bad W b.up
end MLB
