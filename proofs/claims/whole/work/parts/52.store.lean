/-! ===== the class's store and the reference's blocks: what is coupled, what a deed changes ===== -/
/-- rows of the store at a as the block g has them; kd: their kinds -/
def CpRw (V : Mem) (a : Nat) (g kd : Nat → Int) (R : Nat) : Prop := V a 5 = R ∧ R ≤ 4 ∧ ∀ r, r < R → ∃ m : Nat, V (a + 6 + 2 * r) 3 = m ∧ g r = m ∧ 1 ≤ m ∧ m ≤ 20 ∧ (∀ p, p < m → V (a + 7 + 2 * r) p = g (4 + 20 * r + p) ∧ 0 ≤ g (4 + 20 * r + p) ∧ g (4 + 20 * r + p) ≤ 99) ∧ V (a + 6 + 2 * r) 2 = kd r
def CpB0 (V : Mem) (a : Nat) (g : Nat → Int) (B : Nat) : Prop := V a 6 = B ∧ g 84 = B ∧ B ≤ 8 ∧ ∀ k, k < B → ∃ n : Nat, V (a + 14 + 2 * k) 2 = n ∧ g (85 + k) = n ∧ 1 ≤ n ∧ n ≤ 10 ∧ (∀ s, s < n → V (a + 15 + 2 * k) s = g (101 + 10 * k + s)) ∧ PermOK (fun s => g (101 + 10 * k + s)) n
def CpMd (V : Mem) (a : Nat) (g : Nat → Int) (B : Nat) : Prop := ∀ k, k < B → V (a + 14 + 2 * k) 3 = g (93 + k)
theorem CpBr.of {V : Mem} {a B : Nat} {g : Nat → Int} (h : CpB0 V a g B) (h2 : CpMd V a g B) : CpBr V a g B := ⟨h.1, h.2.1, h.2.2.1, fun k hk => by
  obtain ⟨n, a1, a2, a3, a4, a5, a6⟩ := h.2.2.2 k hk
  exact ⟨n, a1, a2, a3, a4, h2 k hk, a5, a6⟩⟩
theorem CpBr.b0 {V : Mem} {a B : Nat} {g : Nat → Int} (h : CpBr V a g B) : CpB0 V a g B ∧ CpMd V a g B := ⟨⟨h.1, h.2.1, h.2.2.1, fun k hk => by
  obtain ⟨n, a1, a2, a3, a4, a5, a6, a7⟩ := h.2.2.2 k hk
  exact ⟨n, a1, a2, a3, a4, a6, a7⟩⟩, fun k hk => by
  obtain ⟨n, a1, a2, a3, a4, a5, a6, a7⟩ := h.2.2.2 k hk
  exact a5⟩
theorem CpRw.congr {V V' : Mem} {a R : Nat} {g g' kd : Nat → Int} (h : CpRw V a g kd R) (h1 : V' a 5 = V a 5) (h2 : ∀ r, r < R → V' (a + 6 + 2 * r) = V (a + 6 + 2 * r) ∧ V' (a + 7 + 2 * r) = V (a + 7 + 2 * r)) (hg : ∀ i, i < 84 → g' i = g i) : CpRw V' a g' kd R := by
  refine ⟨by rw [h1]; exact h.1, h.2.1, fun r hr => ?_⟩
  obtain ⟨m, a1, a2, a3, a4, a5, a6⟩ := h.2.2 r hr
  have hR := h.2.1
  refine ⟨m, by rw [(h2 r hr).1]; exact a1, by rw [hg r (by omega)]; exact a2, a3, a4, fun p hp => ?_, by rw [(h2 r hr).1]; exact a6⟩
  rw [(h2 r hr).2, hg _ (by omega)]
  exact a5 p hp
theorem CpB0.congr {V V' : Mem} {a B : Nat} {g g' : Nat → Int} (h : CpB0 V a g B) (h1 : V' a 6 = V a 6) (h2 : ∀ k, k < B → V' (a + 14 + 2 * k) 2 = V (a + 14 + 2 * k) 2 ∧ V' (a + 15 + 2 * k) = V (a + 15 + 2 * k)) (hg : ∀ i, 84 ≤ i → i < 93 ∨ (101 ≤ i ∧ i < 181) → g' i = g i) : CpB0 V' a g' B := by
  have hB := h.2.2.1
  refine ⟨by rw [h1]; exact h.1, by rw [hg 84 (by omega) (by omega)]; exact h.2.1, hB, fun k hk => ?_⟩
  obtain ⟨n, a1, a2, a3, a4, a5, a6⟩ := h.2.2.2 k hk
  have e : ∀ s, s < n → g' (101 + 10 * k + s) = g (101 + 10 * k + s) := fun s hs => hg _ (by omega) (by omega)
  exact ⟨n, by rw [(h2 k hk).1]; exact a1, by rw [hg _ (by omega) (by omega)]; exact a2, a3, a4, fun s hs => by rw [(h2 k hk).2, e s hs]; exact a5 s hs, a6.congr e⟩
theorem CpMd.congr {V V' : Mem} {a B : Nat} {g g' : Nat → Int} (h : CpMd V a g B) (hB : B ≤ 8) (h2 : ∀ k, k < B → V' (a + 14 + 2 * k) 3 = V (a + 14 + 2 * k) 3) (hg : ∀ i, 93 ≤ i → i < 101 → g' i = g i) : CpMd V' a g' B := fun k hk => by rw [h2 k hk, hg _ (by omega) (by omega)]; exact h k hk
/-! deeds, between two blocks -/
def Lapp (w : Nat) (x : Int) (g g' : Nat → Int) : Prop := g' w = g w + 1 ∧ g' (4 + 20 * w + (g w).toNat) = x ∧ ∀ i, i < 181 → i ≠ w → i ≠ 4 + 20 * w + (g w).toNat → g' i = g i
def Lcut (w : Nat) (g g' : Nat → Int) : Prop := g' w = g w - 1 ∧ ∀ i, i < 181 → i ≠ w → i ≠ 4 + 20 * w + (g' w).toNat → g' i = g i
def Ltrn (w : Nat) (g g' : Nat → Int) : Prop := g' w = g w ∧ (∀ p, p < (g w).toNat → g' (4 + 20 * w + p) = g (4 + 20 * w + ((g w).toNat - 1 - p))) ∧ ∀ i, i < 181 → i < 4 + 20 * w ∨ 4 + 20 * w + (g w).toNat ≤ i → g' i = g i
def swv (x v : Int) : Int := if v = x then x + 1 else if v = x + 1 then x else v
def Lcrs (k : Nat) (x : Int) (g g' : Nat → Int) : Prop := (∀ s, s < (g (85 + k)).toNat → g' (101 + 10 * k + s) = swv x (g (101 + 10 * k + s))) ∧ ∀ i, i < 181 → i < 101 + 10 * k ∨ 101 + 10 * k + (g (85 + k)).toNat ≤ i → g' i = g i
def Ldrp (g g' : Nat → Int) : Prop := g' 84 = g 84 - 1 ∧ ∀ i, i < 181 → i ≠ 84 → i ≠ 85 + (g' 84).toNat → i ≠ 93 + (g' 84).toNat → i < 101 + 10 * (g' 84).toNat ∨ 111 + 10 * (g' 84).toNat ≤ i → g' i = g i
theorem Lapp.cut {w : Nat} {x : Int} {g g' : Nat → Int} (h : Lapp w x g g') : Lcut w g' g := ⟨by rw [h.1]; omega, fun i h1 h2 h3 => (h.2.2 i h1 h2 h3).symm⟩
theorem Ltrn.symm {w : Nat} {g g' : Nat → Int} (h : Ltrn w g g') : Ltrn w g' g := by
  refine ⟨h.1.symm, fun p hp => ?_, fun i h1 h2 => ?_⟩
  · rw [h.1] at hp ⊢
    have := h.2.1 ((g w).toNat - 1 - p) (by omega)
    rw [this, show (g w).toNat - 1 - ((g w).toNat - 1 - p) = p by omega]
  · rw [h.1] at h2
    exact (h.2.2 i h1 h2).symm
theorem swv_swv (x v : Int) : swv x (swv x v) = v := by
  unfold swv
  by_cases c1 : v = x
  · rw [if_pos c1, if_neg (by omega), if_pos rfl]; exact c1.symm
  · rw [if_neg c1]
    by_cases c2 : v = x + 1
    · rw [if_pos c2, if_pos rfl]; exact c2.symm
    · rw [if_neg c2, if_neg c1, if_neg c2]
theorem Lcrs.symm {k : Nat} {x : Int} {g g' : Nat → Int} (hk : k < 8) (h : Lcrs k x g g') : Lcrs k x g' g := by
  have e : g' (85 + k) = g (85 + k) := h.2 (85 + k) (by omega) (by omega)
  refine ⟨fun s hs => ?_, fun i h1 h2 => ?_⟩
  · rw [e] at hs
    rw [h.1 s hs, swv_swv]
  · rw [e] at h2
    exact (h.2 i h1 h2).symm
theorem swv_perm {e : Nat → Int} {n : Nat} {x : Int} (h : PermOK e n) (h0 : 0 ≤ x) (h1 : x + 1 < n) : PermOK (fun s => swv x (e s)) n := by
  refine ⟨fun s hs => ?_, fun s t hs ht q => ?_, fun v hv => ?_⟩
  · have := h.1 s hs
    show 0 ≤ swv x (e s) ∧ swv x (e s) < n
    unfold swv
    split
    · omega
    · split <;> omega
  · refine h.2.1 s t hs ht ?_
    have q' : swv x (e s) = swv x (e t) := q
    rw [← swv_swv x (e s), q', swv_swv]
  · have hw : 0 ≤ swv x (v : Int) ∧ swv x (v : Int) < n := by
      unfold swv
      split
      · omega
      · split <;> omega
    obtain ⟨s, s1, s2⟩ := h.2.2 (swv x (v : Int)).toNat (by omega)
    refine ⟨s, s1, ?_⟩
    show swv x (e s) = _
    rw [s2, show ((swv x (v : Int)).toNat : Int) = swv x (v : Int) by omega, swv_swv]
section CSO
variable {K : KK} {d : Nat} {V : Mem} {a R B : Nat} {g kd : Nat → Int}
theorem CpRw.isr (h : CpRw V a g kd R) (h0 : IsStore a) {w : Nat} (hw : w < R) : IsRow (a + 6 + 2 * w) := by
  have := h.2.1
  exact h0.2.2.2.2.2.2.1 w (by omega)
/-- what stays of rows where one row alone is written -/
theorem CpRw.one {V' : Mem} {g' : Nat → Int} {w m' : Nat} (h : CpRw V a g kd R) (hw : w < R) (hf : ∀ c, c ≠ a + 6 + 2 * w → c ≠ a + 7 + 2 * w → V' c = V c) (h2 : V' (a + 6 + 2 * w) 2 = V (a + 6 + 2 * w) 2) (h3 : V' (a + 6 + 2 * w) 3 = m') (hm : 1 ≤ m' ∧ m' ≤ 20) (hgw : g' w = m') (hn : ∀ p, p < m' → V' (a + 7 + 2 * w) p = g' (4 + 20 * w + p) ∧ 0 ≤ g' (4 + 20 * w + p) ∧ g' (4 + 20 * w + p) ≤ 99) (hg : ∀ r, r < R → r ≠ w → g' r = g r) (hg2 : ∀ r p, r < R → r ≠ w → p < 20 → g' (4 + 20 * r + p) = g (4 + 20 * r + p)) : CpRw V' a g' kd R := by
  refine ⟨by rw [hf a (by omega) (by omega)]; exact h.1, h.2.1, fun r hr => ?_⟩
  obtain ⟨m, a1, a2, a3, a4, a5, a6⟩ := h.2.2 r hr
  by_cases c : r = w
  · subst c
    exact ⟨m', h3, hgw, hm.1, hm.2, hn, h2.trans a6⟩
  · refine ⟨m, ?_, by rw [hg r hr c]; exact a2, a3, a4, fun p hp => ?_, ?_⟩
    · rw [hf _ (by omega) (by omega)]; exact a1
    · rw [hf _ (by omega) (by omega), hg2 r p hr c (by omega)]; exact a5 p hp
    · rw [hf _ (by omega) (by omega)]; exact a6
abbrev gwC (g : Nat → Int) (R : Nat) (w x : Int) : Prop := (0 ≤ w ∧ w < R) ∧ (0 ≤ x ∧ x ≤ 99) ∧ g w.toNat < 20
theorem c_grow (h0 : IsStore a) (h : CpRw V a g kd R) (w x : Int) : Mi K (d + 1) mX7_grow [vR a, vI w, vI x] V (fun z V' => (gwC g R w x ∧ z = g w.toNat + 1 ∧ (∀ c, c ≠ a + 6 + 2 * w.toNat → c ≠ a + 7 + 2 * w.toNat → V' c = V c) ∧ ∀ g', Lapp w.toNat x g g' → CpRw V' a g' kd R) ∨ (¬ gwC g R w x ∧ z = -1 ∧ V' = V)) := by
  have hR := h.2.1
  have h5 := h.1
  have no : ¬ gwC g R w x → ∃ z, some (vI (-1)) = some (vI z) ∧ ((gwC g R w x ∧ z = g w.toNat + 1 ∧ (∀ c, c ≠ a + 6 + 2 * w.toNat → c ≠ a + 7 + 2 * w.toNat → V c = V c) ∧ ∀ g', Lapp w.toNat x g g' → CpRw V a g' kd R) ∨ (¬ gwC g R w x ∧ z = -1 ∧ V = V)) := fun c => ⟨_, rfl, Or.inr ⟨c, rfl, rfl⟩⟩
  refine sX7_grow a w x h0 ⟨fun c => no (by omega), fun c1 => ⟨fun c => no (by omega), fun c2 => ⟨⟨by omega, by omega⟩, fun c => no (by omega), fun c3 => ⟨fun c => no (by omega), fun c4 => ?_⟩⟩⟩⟩
  obtain ⟨i, rfl⟩ : ∃ i : Nat, w = i := ⟨w.toNat, by omega⟩
  have hi : i < R := by omega
  obtain ⟨m, a1, a2, a3, a4, a5, a6⟩ := h.2.2 i hi
  simp only [tn] at no ⊢
  refine sX6_add _ _ (h.isr h0 hi) ?_
  rw [a1]
  refine ⟨fun c => by omega, fun _ => ⟨fun c5 => ⟨⟨by omega, by omega⟩, _, rfl, fun _ => ⟨_, rfl, Or.inl ⟨⟨⟨by omega, by omega⟩, ⟨by omega, by omega⟩, by rw [tn, a2]; omega⟩, ?_, fun c q1 q2 => ?_, fun g' hg => ?_⟩⟩, fun c => absurd c (by decide)⟩, fun c5 => ⟨_, rfl, fun c => absurd rfl c, fun _ => ⟨_, rfl, Or.inr ⟨fun q => by have := q.2.2; rw [tn, a2] at this; omega, rfl, rfl⟩⟩⟩⟩⟩
  · rw [upm_s, upm_a (by omega), a1, a2, w32_s (by omega)]; omega
  · rw [upm_off c q1, upm_off c (by omega)]
  · rw [tn, upm_a (b := a + 6 + 2 * i) (by omega), a1, w32_s (i := m) (by omega)]
    obtain ⟨l1, l2, l3⟩ := hg
    rw [a2, tn] at l2 l3
    rw [a2] at l1
    refine h.one (w := i) (m' := m + 1) hi (fun c q1 q2 => by rw [upm_off c q1, upm_off c (by omega)]) (by rw [upm_k (by decide), upm_a (by omega)]) (upm_s _ _ _ _) (by omega) (by omega) (fun p hp => ?_) (fun r hr hn => l3 r (by omega) hn (by omega)) (fun r p hr hn hp => l3 _ (by omega) (by omega) (by omega))
    rw [upm_a (by omega)]
    by_cases q : p = m
    · rw [q, l2, show a + 7 + 2 * i = a + 6 + 2 * i + 1 by omega, upm_s]; exact ⟨rfl, by omega, by omega⟩
    · rw [upm_k q, l3 _ (by omega) (by omega) (by omega)]; exact a5 p (by omega)
abbrev swC (g : Nat → Int) (R : Nat) (w : Int) : Prop := (0 ≤ w ∧ w < R) ∧ 1 < g w.toNat
theorem c_shrink (h0 : IsStore a) (h : CpRw V a g kd R) (w : Int) : Mi K (d + 1) mX7_shrink [vR a, vI w] V (fun z V' => (swC g R w ∧ z = g (4 + 20 * w.toNat + ((g w.toNat).toNat - 1)) ∧ (0 ≤ z ∧ z ≤ 99) ∧ (∀ c, c ≠ a + 6 + 2 * w.toNat → V' c = V c) ∧ ∀ g', Lcut w.toNat g g' → CpRw V' a g' kd R) ∨ (¬ swC g R w ∧ z = -1 ∧ V' = V)) := by
  have hR := h.2.1
  have h5 := h.1
  have no : ¬ swC g R w → ∃ z, some (vI (-1)) = some (vI z) ∧ ((swC g R w ∧ z = g (4 + 20 * w.toNat + ((g w.toNat).toNat - 1)) ∧ (0 ≤ z ∧ z ≤ 99) ∧ (∀ c, c ≠ a + 6 + 2 * w.toNat → V c = V c) ∧ ∀ g', Lcut w.toNat g g' → CpRw V a g' kd R) ∨ (¬ swC g R w ∧ z = -1 ∧ V = V)) := fun c => ⟨_, rfl, Or.inr ⟨c, rfl, rfl⟩⟩
  refine sX7_shrink a w h0 ⟨fun c => no (by omega), fun c1 => ⟨fun c => no (by omega), fun c2 => ⟨⟨by omega, by omega⟩, ?_⟩⟩⟩
  obtain ⟨i, rfl⟩ : ∃ i : Nat, w = i := ⟨w.toNat, by omega⟩
  have hi : i < R := by omega
  obtain ⟨m, a1, a2, a3, a4, a5, a6⟩ := h.2.2 i hi
  simp only [tn] at no ⊢
  rw [upm_s, a1]
  refine ⟨fun c3 => ?_, fun c3 => no (fun q => by have := q.2; rw [tn, a2] at this; omega)⟩
  have e : w32 ((m : Int) - 1) = ((m - 1 : Nat) : Int) := by rw [w32_id (by omega) (by omega)]; omega
  rw [e, tn]
  clear e
  have e5 := a5 (m - 1) (by omega)
  rw [upm_a (b := a + 6 + 2 * i + 1) (by omega), show a + 6 + 2 * i + 1 = a + 7 + 2 * i by omega, e5.1]
  refine ⟨⟨by omega, by omega⟩, _, rfl, Or.inl ⟨⟨⟨by omega, by omega⟩, by rw [tn, a2]; omega⟩, by rw [a2, tn], e5.2, fun c q => upm_off c q, fun g' hg => ?_⟩⟩
  obtain ⟨l1, l2⟩ := hg
  rw [a2] at l1
  have l1' : g' i = ((m - 1 : Nat) : Int) := by omega
  rw [l1', tn] at l2
  refine h.one (w := i) (m' := m - 1) hi (fun c q1 q2 => upm_off c q1) (upm_k (by decide)) (upm_s _ _ _ _) (by omega) l1' (fun p hp => ?_) (fun r hr hn => l2 r (by omega) hn (by omega)) (fun r p hr hn hp => l2 _ (by omega) (by omega) (by omega))
  rw [upm_a (by omega), l2 _ (by omega) (by omega) (by omega)]
  exact a5 p (by omega)
theorem c_flip {b m : Nat} (h0 : IsRow b) (hm : V b 3 = m) (h20 : m ≤ 20) : Mv K d mX6_flip [vR b] V (fun V' => (∀ c, c ≠ b + 1 → V' c = V c) ∧ ∀ p, p < m → V' (b + 1) p = V (b + 1) (m - 1 - p)) := by
  refine sX6_flip b h0 ?_
  have e2 : w32 (Int.tdiv (m : Int) 2) = ((m / 2 : Nat) : Int) := by rw [Int.tdiv_eq_ediv_of_nonneg (by omega), w32_id (by omega) (by omega)]; omega
  have wqA : ∀ i, i ≤ m / 2 → ∀ V' : Mem, (∀ c, c ≠ b + 1 → V' c = V c) → (∀ p, p < m → V' (b + 1) p = if p < i ∨ m - i ≤ p then V (b + 1) (m - 1 - p) else V (b + 1) p) → Wf K d mX6_flip 2 [some (vR b), some (vI (i : Int)), none] [] V' (fun r V' => r = none ∧ (∀ c, c ≠ b + 1 → V' c = V c) ∧ ∀ p, p < m → V' (b + 1) p = V (b + 1) (m - 1 - p)) := by
    refine up_ind ?_ ?_
    · intro V' g1 g2
      refine sX6_flip_2 b _ h0 ?_
      rw [g1 b (by omega), hm, e2]
      refine ⟨fun _ => ⟨rfl, g1, fun p hp => ?_⟩, fun c => absurd (Int.le_refl _) c⟩
      rw [g2 p hp]
      clear e2
      by_cases c : p < m / 2 ∨ m - m / 2 ≤ p
      · rw [if_pos c]
      · rw [if_neg c, show m - 1 - p = p by omega]
    · intro i hi ih V' g1 g2
      refine sX6_flip_2 b _ h0 ?_
      rw [upm_a (b := b) (by omega), g1 b (by omega), hm, e2]
      clear e2
      have e3 : w32 (w32 ((m : Int) - 1) - (i : Int)) = ((m - 1 - i : Nat) : Int) := by rw [w32_id (x := (m : Int) - 1) (by omega) (by omega), w32_id (by omega) (by omega)]; omega
      rw [e3, tn, tn, w32_s (i := i) (by omega)]
      clear e3
      refine ⟨fun c => by omega, fun _ => ⟨⟨by omega, by omega⟩, ⟨by omega, by omega⟩, ⟨by omega, by omega⟩, ⟨by omega, by omega⟩, ih _ (fun c q => by rw [upm_off c q, upm_off c q]; exact g1 c q) (fun p hp => ?_)⟩⟩
      have g3 := g2 i (by omega)
      have g4 := g2 (m - 1 - i) (by omega)
      rw [if_neg (by omega)] at g3 g4
      by_cases c1 : p = m - 1 - i
      · rw [c1, upm_s, g3, if_pos (by omega), show m - 1 - (m - 1 - i) = i by omega]
      · rw [upm_k c1]
        by_cases c2 : p = i
        · rw [c2, upm_s, g4, if_pos (by omega)]
        · rw [upm_k c2, g2 p hp]
          by_cases c3 : p < i ∨ m - i ≤ p
          · rw [if_pos c3, if_pos (by omega)]
          · rw [if_neg c3, if_neg (by omega)]
  exact wqA 0 (Nat.zero_le _) V (fun _ _ => rfl) (fun p hp => by rw [if_neg (by omega)])
theorem c_reverse (h0 : IsStore a) (h : CpRw V a g kd R) (w : Int) : Mi K (d + 1) mX7_reverse [vR a, vI w] V (fun z V' => ((0 ≤ w ∧ w < R) ∧ z = 1 ∧ (∀ c, c ≠ a + 7 + 2 * w.toNat → V' c = V c) ∧ ∀ g', Ltrn w.toNat g g' → CpRw V' a g' kd R) ∨ (¬ (0 ≤ w ∧ w < R) ∧ z = 0 ∧ V' = V)) := by
  have hR := h.2.1
  have h5 := h.1
  refine sX7_reverse a w h0 ⟨fun c => ⟨_, rfl, Or.inr ⟨by omega, rfl, rfl⟩⟩, fun c1 => ⟨fun c => ⟨_, rfl, Or.inr ⟨by omega, rfl, rfl⟩⟩, fun c2 => ⟨⟨by omega, by omega⟩, ?_⟩⟩⟩
  obtain ⟨i, rfl⟩ : ∃ i : Nat, w = i := ⟨w.toNat, by omega⟩
  have hi : i < R := by omega
  obtain ⟨m, a1, a2, a3, a4, a5, a6⟩ := h.2.2 i hi
  simp only [tn]
  refine (c_flip (d := d) (h.isr h0 hi) a1 a4).use (fun V' ⟨k1, k2⟩ => ⟨_, rfl, Or.inl ⟨⟨by omega, by omega⟩, rfl, fun c q => k1 c (by omega), fun g' hg => ?_⟩⟩)
  obtain ⟨l1, l2, l3⟩ := hg
  rw [a2, tn] at l2 l3
  rw [a2] at l1
  refine h.one (w := i) (m' := m) hi (fun c q1 q2 => k1 c (by omega)) (by rw [k1 _ (by omega)]) (by rw [k1 _ (by omega)]; exact a1) ⟨a3, a4⟩ l1 (fun p hp => ?_) (fun r hr hn => l3 r (by omega) (by omega)) (fun r p hr hn hp => l3 _ (by omega) (by omega))
  rw [show a + 7 + 2 * i = a + 6 + 2 * i + 1 by omega, k2 p hp, l2 p hp]
  have := a5 (m - 1 - p) (by omega)
  rw [show a + 7 + 2 * i = a + 6 + 2 * i + 1 by omega] at this
  exact this
end CSO
