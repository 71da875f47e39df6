/-! ===== braids: powers, knitting; the class's questions on braids ===== -/
def pwE (n : Nat) (e : Nat → Int) : Nat → Nat → Int
  | 0 => e
  | t + 1 => cmp n (pwE n e t) e
theorem pwE_perm {n : Nat} {e : Nat → Int} (h : PermOK e n) : ∀ t, PermOK (pwE n e t) n
  | 0 => h
  | t + 1 => cmp_perm (pwE_perm h t) h
theorem pwE_st {n : Nat} {e : Nat → Int} {t : Nat} (h : ∀ s, s < n → pwE n e (t + 1) s = pwE n e t s) : ∀ d s, s < n → pwE n e (t + d) s = pwE n e t s
  | 0, _, _ => rfl
  | d + 1, s, hs => by
    show cmp n (pwE n e (t + d)) e s = _
    rw [cmp_congr (fun u hu => pwE_st h d u hu) (fun _ _ => rfl) hs]
    exact h s hs
theorem pwE_congr {n : Nat} {e e2 : Nat → Int} (h : ∀ s, s < n → e s = e2 s) : ∀ t s, s < n → pwE n e t s = pwE n e2 t s
  | 0, s, hs => h s hs
  | t + 1, s, hs => cmp_congr (fun u hu => pwE_congr h t u hu) h hs
/-- the first power that is the next one too, from t on -/
def stL (n : Nat) (e : Nat → Int) (t : Nat) : Prop := ∀ s, s < n → pwE n e t s = pwE n e (t - 1) s
def cpB (V : Mem) (a a' b b' : Nat) : Mem := upm (upm (upm (cpm V a' (Int.toNat 0) b' (Int.toNat 0) (Int.toNat 10)) b 1 ((cpm V a' (Int.toNat 0) b' (Int.toNat 0) (Int.toNat 10)) a 1)) b 2 ((upm (cpm V a' (Int.toNat 0) b' (Int.toNat 0) (Int.toNat 10)) b 1 ((cpm V a' (Int.toNat 0) b' (Int.toNat 0) (Int.toNat 10)) a 1)) a 2)) b 3 ((upm (upm (cpm V a' (Int.toNat 0) b' (Int.toNat 0) (Int.toNat 10)) b 1 ((cpm V a' (Int.toNat 0) b' (Int.toNat 0) (Int.toNat 10)) a 1)) b 2 ((upm (cpm V a' (Int.toNat 0) b' (Int.toNat 0) (Int.toNat 10)) b 1 ((cpm V a' (Int.toNat 0) b' (Int.toNat 0) (Int.toNat 10)) a 1)) a 2)) a 3)
theorem cpm_off {V : Mem} {a0 sp a1 dp n c : Nat} (h : c ≠ a1) : cpm V a0 sp a1 dp n c = V c := funext fun _ => if_neg (fun q => h q.1)
theorem cpm_in {V : Mem} {a0 a1 n j : Nat} (h : j < n) : cpm V a0 (Int.toNat 0) a1 (Int.toNat 0) n a1 j = V a0 j := by
  unfold cpm
  rw [if_pos ⟨rfl, Nat.zero_le _, by show j < 0 + n; omega⟩]
  show V a0 (0 + (j - 0)) = _
  rw [Nat.zero_add, Nat.sub_zero]
theorem cpB_ok {V : Mem} {a a' b b' : Nat} (h1 : a ≠ b) (h2 : a ≠ b') (h3 : a' ≠ b) (h4 : b ≠ b') : (∀ c, c ≠ b → c ≠ b' → cpB V a a' b b' c = V c) ∧ cpB V a a' b b' b 1 = V a 1 ∧ cpB V a a' b b' b 2 = V a 2 ∧ cpB V a a' b b' b 3 = V a 3 ∧ ∀ s, s < 10 → cpB V a a' b b' b' s = V a' s := by
  unfold cpB
  refine ⟨fun c q1 q2 => ?_, ?_, ?_, ?_, fun s hs => ?_⟩
  · rw [upm_off c q1, upm_off c q1, upm_off c q1, cpm_off q2]
  · rw [upm_k (by decide), upm_k (by decide), upm_s, cpm_off h2]
  · rw [upm_k (by decide), upm_s, upm_a h1, cpm_off h2]
  · rw [upm_s, upm_a h1, upm_a h1, cpm_off h2]
  · rw [upm_a (Ne.symm h4), upm_a (Ne.symm h4), upm_a (Ne.symm h4)]
    exact cpm_in hs
/-- the order of strands, and its least crossing -/
def lcu (e : Nat → Int) (o : Nat → Nat) (k : Nat) : Int := if e (o (k + 1)) < e (o k) then 1 else 0
def swp (o : Nat → Nat) (k s : Nat) : Nat := if s = k then o (k + 1) else if s = k + 1 then o k else o s
def knR (e : Nat → Int) (n : Nat) (i : Int) : Nat → Nat → (Nat → Nat) → Int
  | _, 0, _ => -1
  | st, f + 1, o => if sfk (lcu e o) 0 (n - 1) = -1 then -1 else if (st : Int) = i then sfk (lcu e o) 0 (n - 1) else knR e n i (st + 1) f (swp o (sfk (lcu e o) 0 (n - 1)).toNat)
def OrdK (e : Nat → Int) (n : Nat) (o : Nat → Nat) : Prop := (∀ s, s < n → o s < n) ∧ ∀ p q, p < q → q < n → o q < o p → e (o p) < e (o q)
theorem sfk_hit {u : Nat → Int} : ∀ f k, sfk u k f ≠ -1 → ∃ r : Nat, sfk u k f = (r : Int) ∧ k ≤ r ∧ r < k + f ∧ u r = 1 ∧ ∀ j, k ≤ j → j < r → u j ≠ 1
  | 0, k, h => absurd rfl h
  | f + 1, k, h => by
    unfold sfk at h ⊢
    by_cases c : u k = 1
    · rw [if_pos c]
      exact ⟨k, rfl, Nat.le_refl _, by omega, c, fun j a b => by omega⟩
    · rw [if_neg c] at h ⊢
      obtain ⟨r, r1, r2, r3, r4, r5⟩ := sfk_hit f (k + 1) h
      refine ⟨r, r1, by omega, by omega, r4, fun j a b => ?_⟩
      by_cases c2 : j = k
      · rw [c2]; exact c
      · exact r5 j (by omega) b
theorem lcu_1 {e : Nat → Int} {o : Nat → Nat} {k : Nat} : lcu e o k = 1 ↔ e (o (k + 1)) < e (o k) := by
  unfold lcu
  split <;> simp [*]
theorem OrdK.sw {e : Nat → Int} {n : Nat} {o : Nat → Nat} (h : OrdK e n o) {k : Nat} (hk : k + 1 < n) (hc : e (o (k + 1)) < e (o k)) : OrdK e n (swp o k) := by
  have hs : ∀ s, swp o k s = if s = k then o (k + 1) else if s = k + 1 then o k else o s := fun _ => rfl
  refine ⟨fun s h1 => ?_, fun p q h1 h2 h3 => ?_⟩
  · rw [hs]
    have a1 := h.1 (k + 1) hk
    have a2 := h.1 k (by omega)
    have a3 := h.1 s h1
    split
    · exact a1
    · split
      · exact a2
      · exact a3
  · rw [hs p, hs q] at h3 ⊢
    by_cases c1 : p = k
    · subst c1
      rw [if_pos rfl] at h3 ⊢
      rw [if_neg (show ¬ q = p by omega)] at h3 ⊢
      by_cases c2 : q = p + 1
      · rw [if_pos c2]; exact hc
      · rw [if_neg c2] at h3 ⊢
        exact h.2 (p + 1) q (by omega) h2 h3
    · rw [if_neg c1] at h3 ⊢
      by_cases c2 : p = k + 1
      · subst c2
        rw [if_pos rfl] at h3 ⊢
        rw [if_neg (show ¬ q = k by omega), if_neg (show ¬ q = k + 1 by omega)] at h3 ⊢
        exact h.2 k q (by omega) h2 h3
      · rw [if_neg c2] at h3 ⊢
        by_cases c3 : q = k
        · subst c3
          rw [if_pos rfl] at h3 ⊢
          exact h.2 p (q + 1) (by omega) hk h3
        · rw [if_neg c3] at h3 ⊢
          by_cases c4 : q = k + 1
          · subst c4
            rw [if_pos rfl] at h3 ⊢
            exact h.2 p k (by omega) (by omega) h3
          · rw [if_neg c4] at h3 ⊢
            exact h.2 p q h1 h2 h3
theorem OrdK.id {e : Nat → Int} {n : Nat} : OrdK e n (fun s => s) := ⟨fun _ h => h, fun p q h1 _ h3 => absurd h1 (by have h3' : q < p := h3; omega)⟩
/-- what both have of braids -/
def CpBr (V : Mem) (a : Nat) (g : Nat → Int) (B : Nat) : Prop := V a 6 = B ∧ g 84 = B ∧ B ≤ 8 ∧ ∀ k, k < B → ∃ n : Nat, V (a + 14 + 2 * k) 2 = n ∧ g (85 + k) = n ∧ 1 ≤ n ∧ n ≤ 10 ∧ V (a + 14 + 2 * k) 3 = g (93 + k) ∧ (∀ s, s < n → V (a + 15 + 2 * k) s = g (101 + 10 * k + s)) ∧ PermOK (fun s => g (101 + 10 * k + s)) n
abbrev EB (V : Mem) (k : Nat) (s : Nat) : Int := V 381 (101 + 10 * k + s)
abbrev brC (V : Mem) (k : Int) : Prop := 0 ≤ k ∧ k < V 381 84
theorem CpBr.at {V : Mem} {B k : Nat} (h : CpBr V 43 (V 381) B) (hk : k < B) : ∃ n : Nat, IsBraid (57 + 2 * k) ∧ V (57 + 2 * k) 2 = n ∧ V 381 (85 + k) = n ∧ 1 ≤ n ∧ n ≤ 10 ∧ V (57 + 2 * k) 3 = V 381 (93 + k) ∧ (∀ s, s < n → V (57 + 2 * k + 1) s = EB V k s) ∧ PermOK (EB V k) n ∧ PermOK (V (57 + 2 * k + 1)) n := by
  obtain ⟨n, a1, a2, a3, a4, a5, a6, a7⟩ := h.2.2.2 k hk
  have hB := h.2.2.1
  have hb : IsBraid (57 + 2 * k) := by
    have := obj45 (k := (k : Int)) ⟨by omega, by omega⟩
    rw [tn] at this
    exact this
  have e6 : ∀ s, s < n → V (57 + 2 * k + 1) s = EB V k s := fun s hs => by
    have := a6 s hs
    rw [show 43 + 15 + 2 * k = 57 + 2 * k + 1 by omega] at this
    exact this
  exact ⟨n, hb, a1, a2, a3, a4, a5, e6, a7, a7.congr e6⟩
section CBX
variable {K : KK} {d : Nat} {V : Mem} {B : Nat}
theorem c_raise {a n m : Nat} {e : Nat → Int} (h1 : IsBraid a) (b1 : a + 1 < 205) (hn : V a 2 = n) (h10 : n ≤ 10) (he : V (a + 1) = e) (hp : PermOK e n) (hm : 1 ≤ m) (hm2 : m ≤ 21) (hE : kE K = false) : Mi K (d + 3) mX2_raise [vR 204, vR a, vI (m : Int)] V (fun z V' => (∀ c, c < 205 ∨ 245 ≤ c → V' c = V c) ∧ (∀ s, s < n → V' 208 s = pwE n e (m - 1) s) ∧ ∃ t : Nat, z = t ∧ 1 ≤ t ∧ t ≤ m ∧ (t < m → stL n e t) ∧ ∀ u, 1 ≤ u → u < t → ¬ stL n e u) := by
  refine sX2_raise a _ h1 hE ?_
  have wqA : ∀ t, t ≤ m → 1 ≤ t → ∀ V' : Mem, (∀ c, c < 205 ∨ 245 ≤ c → V' c = V c) → V' 207 2 = n → (∀ s, s < n → V' 208 s = pwE n e (t - 1) s) → (∀ u, 1 ≤ u → u < t → ¬ stL n e u) → Wf K (d + 3) mX2_raise 10 [some (vR 204), some (vR a), some (vI (m : Int)), some (vI (t : Int))] [] V' (fun r V' => ∃ z, r = some (vI z) ∧ (∀ c, c < 205 ∨ 245 ≤ c → V' c = V c) ∧ (∀ s, s < n → V' 208 s = pwE n e (m - 1) s) ∧ ∃ t : Nat, z = t ∧ 1 ≤ t ∧ t ≤ m ∧ (t < m → stL n e t) ∧ ∀ u, 1 ≤ u → u < t → ¬ stL n e u) := by
    refine up_ind ?_ ?_
    · intro _ V' g1 g2 g3 g4
      exact sX2_raise_10 a _ _ h1 hE ⟨fun _ => ⟨_, rfl, g1, g3, m, rfl, hm, Nat.le_refl _, fun c => absurd c (Nat.lt_irrefl _), g4⟩, fun c => absurd (Int.le_refl _) c⟩
    · intro t ht ih h1t V' g1 g2 g3 g4
      obtain ⟨u, rfl⟩ : ∃ u, t = u + 1 := ⟨t - 1, by omega⟩
      rw [show u + 1 - 1 = u by omega] at g3
      refine sX2_raise_10 a _ _ h1 hE ⟨fun c => by omega, fun _ => ?_⟩
      have ea : V' (a + 1) = e := by rw [g1 (a + 1) (by omega)]; exact he
      refine (c_join (d := d) (V := V') is207 h1 is205 (by omega) (by omega) (by omega) g2 (by rw [g1 a (by omega)]; exact hn) h10 ((pwE_perm hp u).congr g3) (by rw [ea]; exact hp)).use (fun V2 ⟨k1, k2, k3, k4⟩ => ?_)
      have k5 : ∀ s, s < n → V2 206 s = pwE n e (u + 1) s := fun s hs => by
        rw [k4 s hs, ea]
        exact cmp_congr g3 (fun _ _ => rfl) hs
      have k6 : V2 208 = V' 208 := k1 208 (by omega) (by omega) (by omega)
      have k7 : V2 207 = V' 207 := k1 207 (by omega) (by omega) (by omega)
      have fr : ∀ c, c < 205 ∨ 245 ≤ c → V2 c = V c := fun c q => by rw [k1 c (by omega) (by omega) (by omega)]; exact g1 c q
      refine (c_isSame (d := d + 2) (V := V2) (n := n) is205 is207 k3 (by rw [k7]; exact g2) h10).use (fun z V3 ⟨e3, hz⟩ => ?_)
      subst e3
      rcases hz with ⟨rfl, hz⟩ | ⟨rfl, s0, hs0, hz⟩
      · have st : ∀ s, s < n → pwE n e (u + 1) s = pwE n e u s := fun s hs => by
          rw [← k5 s hs, ← g3 s hs, ← k6]
          exact hz s hs
        refine ⟨fun c => absurd c (by decide), fun _ => ⟨_, rfl, fr, fun s hs => ?_, u + 1, rfl, h1t, by omega, fun _ => st, g4⟩⟩
        rw [k6, g3 s hs]
        have := pwE_st st (m - 1 - u) s hs
        rw [show u + (m - 1 - u) = m - 1 by omega] at this
        exact this.symm
      · refine ⟨fun _ => ?_, fun c => absurd rfl c⟩
        obtain ⟨c1, c2, c3, c4, c5⟩ := cpB_ok (V := V3) (a := 205) (a' := 206) (b := 207) (b' := 208) (by omega) (by omega) (by omega) (by omega)
        rw [w32_s (i := u + 1) (by omega)]
        refine ih (by omega) (cpB V3 205 206 207 208) (fun c q => by rw [c1 c (by omega) (by omega)]; exact fr c q) (c3.trans k3) (fun s hs => by rw [c5 s (by omega), k5 s hs]; rfl) (fun w h1w h2w => ?_)
        by_cases q : w = u + 1
        · subst q
          intro hst
          refine hz ?_
          show V3 206 s0 = V3 208 s0
          rw [k5 s0 hs0, k6, g3 s0 hs0]
          exact hst s0 hs0
        · exact g4 w h1w (by omega)
  obtain ⟨c1, c2, c3, c4, c5⟩ := cpB_ok (V := V) (a := a) (a' := a + 1) (b := 207) (b' := 208) (by omega) (by omega) (by omega) (by omega)
  exact wqA 1 hm (Nat.le_refl _) (cpB V a (a + 1) 207 208) (fun c q => c1 c (by omega) (by omega)) (c3.trans hn) (fun s hs => by rw [c5 s (by omega), he]; rfl) (fun u q1 q2 => by omega)
theorem c_leastCrossing {a n : Nat} {o : Nat → Nat} (h1 : IsBraid a) (hn : V a 2 = n) (h10 : n ≤ 10) (hn1 : 1 ≤ n) (ho : ∀ s, s < n → o s < n) (hV : ∀ s, s < n → V 245 s = (o s : Int)) : Pu K d mX2_leastCrossing [vR 204, vR a] V (sfk (lcu (V (a + 1)) o) 0 (n - 1)) := by
  refine sX2_leastCrossing a h1 ?_
  have wqA : ∀ k, k ≤ n - 1 → Wf K d mX2_leastCrossing 2 [some (vR 204), some (vR a), some (vI (k : Int))] [] V (fun r V' => ∃ z, r = some (vI z) ∧ z = sfk (lcu (V (a + 1)) o) k (n - 1 - k) ∧ V' = V) := by
    refine up_ind ?_ ?_
    · refine sX2_leastCrossing_2 a _ h1 ?_
      rw [w32_s (i := n - 1) (by omega), hn]
      exact ⟨fun _ => ⟨_, rfl, by rw [Nat.sub_self]; rfl, rfl⟩, fun c => absurd (by omega) c⟩
    · intro k hk ih
      have o1 := ho k (by omega)
      have o2 := ho (k + 1) (by omega)
      refine sX2_leastCrossing_2 a _ h1 ?_
      rw [w32_s (i := k) (by omega), hn, tn, tn, hV k (by omega), hV (k + 1) (by omega), tn, tn, show n - 1 - k = (n - 1 - (k + 1)) + 1 by omega]
      unfold sfk
      refine ⟨fun c => by omega, fun _ => ⟨⟨by omega, by omega⟩, ⟨by omega, by omega⟩, ⟨by omega, by omega⟩, ⟨by omega, by omega⟩, fun c => ?_, fun c => ⟨_, rfl, ?_, rfl⟩⟩⟩
      · rw [if_neg (fun q => absurd (lcu_1.mp q) (by omega))]
        exact ih
      · rw [if_pos (lcu_1.mpr (by omega))]
  exact wqA 0 (Nat.zero_le _)
theorem c_knitStep {a n : Nat} {i : Int} (h1 : IsBraid a) (b1 : a + 1 < 245) (hn : V a 2 = n) (h10 : n ≤ 10) (hn1 : 1 ≤ n) : Mi K (d + 1) mX2_knitStep [vR 204, vR a, vI i] V (fun z V' => (∀ c, c ≠ 245 → V' c = V c) ∧ z = knR (V (a + 1)) n i 0 45 (fun s => s)) := by
  refine sX2_knitStep a _ h1 ?_
  have wqB : ∀ st : Nat, st ≤ 45 → ∀ (o : Nat → Nat) (V' : Mem), (∀ c, c ≠ 245 → V' c = V c) → (∀ s, s < n → o s < n) → (∀ s, s < n → V' 245 s = (o s : Int)) → Wf K (d + 1) mX2_knitStep 25 [some (vR 204), some (vR a), some (vI i), some (vI (st : Int)), none, none] [] V' (fun r V' => ∃ z, r = some (vI z) ∧ (∀ c, c ≠ 245 → V' c = V c) ∧ z = knR (V (a + 1)) n i st (45 - st) o) := by
    refine up_ind ?_ ?_
    · intro o V' g1 g2 g3
      exact sX2_knitStep_25 a _ _ h1 ⟨fun _ => ⟨_, rfl, g1, rfl⟩, fun c => absurd (by omega) c⟩
    · intro st hst ih o V' g1 g2 g3
      refine sX2_knitStep_25 a _ _ h1 ⟨fun c => by omega, fun _ => ?_⟩
      refine (c_leastCrossing (d := d) (V := V') (n := n) h1 (by rw [g1 a (by omega)]; exact hn) h10 hn1 g2 g3).use ?_
      rw [g1 (a + 1) (by omega), show 45 - st = (45 - (st + 1)) + 1 by omega, w32_s (i := st) (by omega)]
      unfold knR
      by_cases c : sfk (lcu (V (a + 1)) o) 0 (n - 1) = -1
      · rw [c, if_pos rfl]
        exact ⟨fun _ => ⟨_, rfl, g1, rfl⟩, fun q => absurd rfl q⟩
      · rw [if_neg c]
        obtain ⟨r, r1, r2, r3, r4, r5⟩ := sfk_hit _ _ c
        rw [r1, w32_s (i := r) (by omega), tn, tn]
        refine ⟨fun q => by omega, fun _ => ⟨fun q => ⟨⟨by omega, by omega⟩, ⟨by omega, by omega⟩, ⟨by omega, by omega⟩, ⟨by omega, by omega⟩, ?_⟩, fun q => ⟨_, rfl, g1, by rw [if_pos q]⟩⟩⟩
        rw [if_neg q, g3 r (by omega), g3 (r + 1) (by omega)]
        refine ih (swp o r) _ (fun c q => by rw [upm_off c q, upm_off c q]; exact g1 c q) (fun s hs => ?_) (fun s hs => ?_)
        · have q1 := g2 s hs
          have q2 := g2 r (by omega)
          have q3 := g2 (r + 1) (by omega)
          unfold swp
          split
          · exact q3
          · split
            · exact q2
            · exact q1
        · unfold swp
          by_cases w1 : s = r
          · rw [w1, if_pos rfl, upm_k (by omega), upm_s]
          · rw [if_neg w1]
            by_cases w2 : s = r + 1
            · rw [if_pos w2, w2, upm_s]
            · rw [if_neg w2, upm_k w2, upm_k w1]; exact g3 s hs
  have wqA : ∀ s, s ≤ n → ∀ V' : Mem, (∀ c, c ≠ 245 → V' c = V c) → (∀ t, t < s → V' 245 t = (t : Int)) → Wf K (d + 1) mX2_knitStep 2 [some (vR 204), some (vR a), some (vI i), some (vI (s : Int)), none, none] [] V' (fun r V' => ∃ z, r = some (vI z) ∧ (∀ c, c ≠ 245 → V' c = V c) ∧ z = knR (V (a + 1)) n i 0 45 (fun s => s)) := by
    refine up_ind ?_ ?_
    · intro V' g1 g2
      refine sX2_knitStep_2 a _ _ h1 ⟨fun _ => ?_, fun c => absurd (by rw [g1 a (by omega), hn]; exact Int.le_refl _) c⟩
      exact wqB 0 (by omega) (fun s => s) V' g1 (fun s hs => hs) g2
    · intro s hs ih V' g1 g2
      refine sX2_knitStep_2 a _ _ h1 ⟨fun c => absurd c (by rw [g1 a (by omega), hn]; omega), fun _ => ⟨⟨by omega, by omega⟩, ?_⟩⟩
      rw [w32_s (i := s) (by omega), tn]
      refine ih _ (fun c q => (upm_off c q).trans (g1 c q)) (fun t ht => ?_)
      by_cases c : t = s
      · rw [c, upm_s]
      · rw [upm_k c]; exact g2 t (by omega)
  exact wqA 0 (Nat.zero_le _) V (fun _ _ => rfl) (fun t ht => absurd ht (Nat.not_lt_zero t))
theorem knR_congr {e e2 : Nat → Int} {n : Nat} {i : Int} (h : ∀ s, s < n → e s = e2 s) : ∀ f st o, (∀ s, s < n → o s < n) → knR e n i st f o = knR e2 n i st f o
  | 0, _, _, _ => rfl
  | f + 1, st, o, ho => by
    have eq : sfk (lcu e o) 0 (n - 1) = sfk (lcu e2 o) 0 (n - 1) := sfk_congr (n - 1) 0 (n - 1) (by omega) (fun j hj => by
      unfold lcu
      rw [h _ (ho j (by omega)), h _ (ho (j + 1) (by omega))])
    unfold knR
    rw [eq]
    by_cases c : sfk (lcu e2 o) 0 (n - 1) = -1
    · rw [if_pos c, if_pos c]
    · rw [if_neg c, if_neg c]
      obtain ⟨r, r1, r2, r3, -⟩ := sfk_hit _ _ c
      rw [r1, tn, knR_congr h f (st + 1) (swp o r) (fun s hs => by
        have q1 := ho s hs
        have q2 := ho r (by omega)
        have q3 := ho (r + 1) (by omega)
        unfold swp
        split
        · exact q3
        · split
          · exact q2
          · exact q1)]
abbrev stC (V : Mem) (k s : Int) : Prop := brC V k ∧ 0 ≤ s ∧ s < V 381 (85 + k.toNat)
abbrev nBr (V : Mem) (k : Nat) : Nat := (V 381 (85 + k)).toNat
theorem x_braid (hb : CpBr V 43 (V 381) B) (k w : Int) : Mi K (d + 1) mX11_braid [vR 0, vI k, vI w] V (fun z V' => FrX V V' ∧ z = if brC V k ∧ 0 ≤ w ∧ w ≤ 2 then (if w = 0 then V 381 (85 + k.toNat) else if w = 1 then ((crO (EB V k.toNat) (nBr V k.toNat) : Nat) : Int) else V 381 (93 + k.toNat)) else -1) := by
  have x1 := hb.1
  have x2 := hb.2.1
  have x3 := hb.2.2.1
  refine sX11_braid k w ⟨fun h => ⟨_, rfl, FrX.rf, by rw [if_neg (by omega)]⟩, fun h => ⟨fun h2 => ⟨_, rfl, FrX.rf, by rw [if_neg (by omega)]⟩, fun h2 => ?_⟩⟩
  obtain ⟨i, rfl⟩ : ∃ i : Nat, k = i := ⟨k.toNat, by omega⟩
  have hi : i < B := by omega
  obtain ⟨n, y1, y2, y3, y4, y5, y6, y7, y8, y9⟩ := hb.at hi
  have hc : brC V (i : Int) := ⟨by omega, by omega⟩
  simp only [tn]
  refine ⟨⟨by omega, by omega⟩, fun c0 => ⟨fun c1 => ⟨fun c2 => ⟨_, rfl, FrX.rf, by rw [if_neg (by omega)]⟩, fun c2 => ⟨_, rfl, FrX.rf, ?_⟩⟩, fun c1 => ?_⟩, fun c0 => ⟨_, rfl, FrX.rf, ?_⟩⟩
  · rw [if_pos ⟨hc, by omega, by omega⟩, if_neg c0, if_neg c1, y6]
  · refine (c_crossings (d := d) y1 y2 y5 y4).use ⟨_, rfl, FrX.rf, ?_⟩
    rw [if_pos ⟨hc, by omega, by omega⟩, if_neg c0, if_pos c1]
    show _ = ((crO (EB V i) (V 381 (85 + i)).toNat : Nat) : Int)
    rw [y3, tn, crO_congr y7 n (Nat.le_refl _)]
  · rw [if_pos ⟨hc, by omega, by omega⟩, if_pos c0, y2, y3]
theorem x_ends (hb : CpBr V 43 (V 381) B) (k s : Int) : Mi K (d + 1) mX11_ends [vR 0, vI k, vI s] V (fun z V' => FrX V V' ∧ z = if stC V k s then EB V k.toNat s.toNat else -1) := by
  have x1 := hb.1
  have x2 := hb.2.1
  have x3 := hb.2.2.1
  refine sX11_ends k s ⟨fun h => ⟨_, rfl, FrX.rf, by rw [if_neg (by omega)]⟩, fun h => ⟨fun h2 => ⟨_, rfl, FrX.rf, by rw [if_neg (by omega)]⟩, fun h2 => ?_⟩⟩
  obtain ⟨i, rfl⟩ : ∃ i : Nat, k = i := ⟨k.toNat, by omega⟩
  have hi : i < B := by omega
  obtain ⟨n, y1, y2, y3, y4, y5, y6, y7, y8, y9⟩ := hb.at hi
  have hc : brC V (i : Int) := ⟨by omega, by omega⟩
  simp only [tn]
  refine ⟨⟨by omega, by omega⟩, (c_hasStrand (d := d) y1 s).use ?_⟩
  rw [y2]
  by_cases c : 0 ≤ s ∧ s < (n : Int) ∧ s < 10
  · rw [if_pos c]
    refine ⟨fun _ => ⟨⟨by omega, by omega⟩, _, rfl, FrX.rf, ?_⟩, fun q => absurd q (by decide)⟩
    rw [if_pos ⟨hc, c.1, by rw [tn, y3]; exact c.2.1⟩, y7 _ (by omega)]
  · rw [if_neg c]
    refine ⟨fun q => absurd rfl q, fun _ => ⟨_, rfl, FrX.rf, ?_⟩⟩
    rw [if_neg (fun q => c (by have := q.2; rw [tn, y3] at this; omega))]
abbrev ctC (V : Mem) (k i j : Int) : Prop := brC V k ∧ (0 ≤ i ∧ i ≤ V 381 (85 + k.toNat)) ∧ 0 ≤ j ∧ j ≤ V 381 (85 + k.toNat)
theorem x_counts (hb : CpBr V 43 (V 381) B) (k i j : Int) : Mi K (d + 2) mX11_counts [vR 0, vI k, vI i, vI j] V (fun z V' => FrX V V' ∧ z = if ctC V k i j then ((ctn (EB V k.toNat) (nBr V k.toNat) i.toNat j.toNat : Nat) : Int) else -1) := by
  have x1 := hb.1
  have x2 := hb.2.1
  have x3 := hb.2.2.1
  have no : ¬ ctC V k i j → ∃ z, some (vI (-1)) = some (vI z) ∧ FrX V V ∧ z = if ctC V k i j then ((ctn (EB V k.toNat) (nBr V k.toNat) i.toNat j.toNat : Nat) : Int) else -1 := fun c => ⟨_, rfl, FrX.rf, by rw [if_neg c]⟩
  refine sX11_counts k i j ⟨fun h => no (fun q => by have := q.1.1; omega), fun h => ⟨fun h2 => no (fun q => by have := q.1.2; omega), fun h2 => ?_⟩⟩
  obtain ⟨b, rfl⟩ : ∃ b : Nat, k = b := ⟨k.toNat, by omega⟩
  have hi : b < B := by omega
  obtain ⟨n, y1, y2, y3, y4, y5, y6, y7, y8, y9⟩ := hb.at hi
  simp only [tn] at no ⊢
  rw [y2]
  refine ⟨⟨by omega, by omega⟩, fun h3 => no (fun q => by have := q.2.1.1; omega), fun h3 => ⟨fun h4 => no (fun q => by have := q.2.1.2; rw [tn, y3] at this; omega), fun h4 => ⟨fun h5 => no (fun q => by have := q.2.2.1; omega), fun h5 => ⟨fun h6 => ?_, fun h6 => no (fun q => by have := q.2.2.2; rw [tn, y3] at this; omega)⟩⟩⟩⟩
  obtain ⟨p, rfl⟩ : ∃ p : Nat, i = p := ⟨i.toNat, by omega⟩
  obtain ⟨q, rfl⟩ : ∃ q : Nat, j = q := ⟨j.toNat, by omega⟩
  refine (c_countOf (d := d) y1 y2 y5 (by omega)).use ⟨_, rfl, FrX.rf, ?_⟩
  rw [if_pos ⟨⟨by omega, by omega⟩, ⟨by omega, by rw [tn, y3]; omega⟩, by omega, by rw [tn, y3]; omega⟩, tn, tn, ctn_congr y7 (by omega)]
  show _ = ((ctn (EB V b) (V 381 (85 + b)).toNat p q : Nat) : Int)
  rw [y3, tn]
abbrev alC (V : Mem) (x y : Int) : Prop := brC V x ∧ brC V y ∧ V 381 (85 + x.toNat) = V 381 (85 + y.toNat)
theorem x_compose (hb : CpBr V 43 (V 381) B) (x y s : Int) : Mi K (d + 3) mX11_compose [vR 0, vI x, vI y, vI s] V (fun z V' => FrX V V' ∧ z = if alC V x y ∧ 0 ≤ s ∧ s < V 381 (85 + x.toNat) then cmp (nBr V x.toNat) (EB V x.toNat) (EB V y.toNat) s.toNat else -1) := by
  have x1 := hb.1
  have x2 := hb.2.1
  have x3 := hb.2.2.1
  have no : ¬ (alC V x y ∧ 0 ≤ s ∧ s < V 381 (85 + x.toNat)) → ∃ z, some (vI (-1)) = some (vI z) ∧ FrX V V ∧ z = if alC V x y ∧ 0 ≤ s ∧ s < V 381 (85 + x.toNat) then cmp (nBr V x.toNat) (EB V x.toNat) (EB V y.toNat) s.toNat else -1 := fun c => ⟨_, rfl, FrX.rf, by rw [if_neg c]⟩
  refine sX11_compose x y s ⟨fun h => ?_, fun h => ⟨fun h2 => ?_, fun h2 => ⟨⟨by omega, by omega⟩, fun h3 => no (fun q => by have := q.1.2.1.1; omega), fun h3 => ⟨fun h4 => no (fun q => by have := q.1.2.1.2; omega), fun h4 => ⟨⟨by omega, by omega⟩, ?_⟩⟩⟩⟩⟩
  · have n1 := no (fun q => by have := q.1.1.1; omega)
    exact ⟨fun _ => n1, fun h3 => ⟨fun _ => n1, fun h4 => ⟨⟨by omega, by omega⟩, n1⟩⟩⟩
  · have n1 := no (fun q => by have := q.1.1.2; omega)
    exact ⟨fun _ => n1, fun h3 => ⟨fun _ => n1, fun h4 => ⟨⟨by omega, by omega⟩, n1⟩⟩⟩
  · obtain ⟨i, rfl⟩ : ∃ i : Nat, x = i := ⟨x.toNat, by omega⟩
    obtain ⟨j, rfl⟩ : ∃ j : Nat, y = j := ⟨y.toNat, by omega⟩
    obtain ⟨n, y1, y2, y3, y4, y5, y6, y7, y8, y9⟩ := hb.at (show i < B by omega)
    obtain ⟨m, z1, z2, z3, z4, z5, z6, z7, z8, z9⟩ := hb.at (show j < B by omega)
    simp only [tn] at no ⊢
    rw [y2, z2]
    refine ⟨fun c => no (fun q => c (by have := q.1.2.2; rw [tn, tn, y3, z3] at this; exact this)), fun c => ?_⟩
    have e : m = n := by omega
    subst e
    refine (c_hasStrand (d := d + 2) y1 s).use ?_
    rw [y2]
    by_cases c2 : 0 ≤ s ∧ s < (m : Int) ∧ s < 10
    · rw [if_pos c2]
      refine ⟨fun _ => ?_, fun q => absurd q (by decide)⟩
      refine (c_join (d := d) y1 z1 is205 (by omega) (by omega) (by omega) y2 z2 y5 y9 z9).use (fun V2 ⟨k1, k2, k3, k4⟩ => ⟨⟨by omega, by omega⟩, _, rfl, fun c hc => k1 c (by omega) (by omega) (by omega), ?_⟩)
      rw [if_pos ⟨⟨⟨by omega, by omega⟩, ⟨by omega, by omega⟩, by rw [tn, tn, y3, z3]⟩, c2.1, by rw [y3]; exact c2.2.1⟩]
      show V2 (205 + 1) _ = cmp (V 381 (85 + i)).toNat _ _ _
      rw [k4 _ (by omega), y3, tn]
      exact cmp_congr y7 z7 (by omega)
    · rw [if_neg c2]
      refine ⟨fun q => absurd rfl q, fun _ => no (fun q => c2 ?_)⟩
      have := q.2
      rw [y3] at this
      omega
theorem x_power (hb : CpBr V 43 (V 381) B) (hE : kE K = false) (k o s : Int) : Mi K (d + 4) mX11_power [vR 0, vI k, vI o, vI s] V (fun z V' => FrX V V' ∧ z = if stC V k s ∧ 1 ≤ o ∧ o ≤ 20 then pwE (nBr V k.toNat) (EB V k.toNat) (o.toNat - 1) s.toNat else -1) := by
  have x1 := hb.1
  have x2 := hb.2.1
  have x3 := hb.2.2.1
  have no : ¬ (stC V k s ∧ 1 ≤ o ∧ o ≤ 20) → ∃ z, some (vI (-1)) = some (vI z) ∧ FrX V V ∧ z = if stC V k s ∧ 1 ≤ o ∧ o ≤ 20 then pwE (nBr V k.toNat) (EB V k.toNat) (o.toNat - 1) s.toNat else -1 := fun c => ⟨_, rfl, FrX.rf, by rw [if_neg c]⟩
  refine sX11_power k o s ⟨fun h => no (fun q => by have := q.1.1.1; omega), fun h => ⟨fun h2 => no (fun q => by have := q.1.1.2; omega), fun h2 => ⟨⟨by omega, by omega⟩, fun h3 => no (fun q => by omega), fun h3 => ⟨fun h4 => no (fun q => by omega), fun h4 => ?_⟩⟩⟩⟩
  obtain ⟨i, rfl⟩ : ∃ i : Nat, k = i := ⟨k.toNat, by omega⟩
  obtain ⟨m, rfl⟩ : ∃ m : Nat, o = m := ⟨o.toNat, by omega⟩
  obtain ⟨n, y1, y2, y3, y4, y5, y6, y7, y8, y9⟩ := hb.at (show i < B by omega)
  simp only [tn] at no ⊢
  refine (c_hasStrand (d := d + 3) y1 s).use ?_
  rw [y2]
  by_cases c2 : 0 ≤ s ∧ s < (n : Int) ∧ s < 10
  · rw [if_pos c2]
    refine ⟨fun _ => ?_, fun q => absurd q (by decide)⟩
    refine (c_raise (d := d) (m := m) y1 (by omega) y2 y5 rfl y9 (by omega) (by omega) hE).use (fun z V2 ⟨k1, k2, k3⟩ => ⟨⟨by omega, by omega⟩, _, rfl, fun c hc => k1 c (by omega), ?_⟩)
    rw [if_pos ⟨⟨⟨by omega, by omega⟩, c2.1, by rw [tn, y3]; exact c2.2.1⟩, by omega, by omega⟩, k2 _ (by omega)]
    show _ = pwE (V 381 (85 + i)).toNat _ _ _
    rw [y3, tn]
    exact pwE_congr y7 _ _ (by omega)
  · rw [if_neg c2]
    refine ⟨fun q => absurd rfl q, fun _ => no (fun q => c2 ?_)⟩
    have := q.1.2
    rw [tn, y3] at this
    omega
/-- the first power that settles, or -1 -/
def isStl (n : Nat) (e : Nat → Int) (z : Int) : Prop := (z = -1 ∧ ∀ u, 1 ≤ u → u ≤ 20 → ¬ stL n e u) ∨ ∃ t : Nat, z = t ∧ 1 ≤ t ∧ t ≤ 20 ∧ stL n e t ∧ ∀ u, 1 ≤ u → u < t → ¬ stL n e u
theorem isStl.un {n : Nat} {e : Nat → Int} {z z2 : Int} (h : isStl n e z) (h2 : isStl n e z2) : z = z2 := by
  rcases h with ⟨rfl, h⟩ | ⟨t, rfl, t1, t2, t3, t4⟩ <;> rcases h2 with ⟨rfl, h2⟩ | ⟨u, rfl, u1, u2, u3, u4⟩
  · rfl
  · exact absurd u3 (h u u1 u2)
  · exact absurd t3 (h2 t t1 t2)
  · rcases Nat.lt_trichotomy t u with c | c | c
    · exact absurd t3 (u4 t t1 c)
    · rw [c]
    · exact absurd u3 (t4 u u1 c)
theorem stL_congr {n : Nat} {e e2 : Nat → Int} (h : ∀ s, s < n → e s = e2 s) (t : Nat) : stL n e t ↔ stL n e2 t := by
  unfold stL
  refine ⟨fun q s hs => ?_, fun q s hs => ?_⟩
  · rw [← pwE_congr h t s hs, ← pwE_congr h (t - 1) s hs]; exact q s hs
  · rw [pwE_congr h t s hs, pwE_congr h (t - 1) s hs]; exact q s hs
theorem isStl.congr {n : Nat} {e e2 : Nat → Int} {z : Int} (h : ∀ s, s < n → e s = e2 s) (hz : isStl n e z) : isStl n e2 z := by
  rcases hz with ⟨rfl, q⟩ | ⟨t, rfl, t1, t2, t3, t4⟩
  · exact Or.inl ⟨rfl, fun u u1 u2 c => q u u1 u2 ((stL_congr h u).mpr c)⟩
  · exact Or.inr ⟨t, rfl, t1, t2, (stL_congr h t).mp t3, fun u u1 u2 c => t4 u u1 u2 ((stL_congr h u).mpr c)⟩
theorem x_settles (hb : CpBr V 43 (V 381) B) (hE : kE K = false) (k : Int) : Mi K (d + 4) mX11_settles [vR 0, vI k] V (fun z V' => FrX V V' ∧ ((¬ brC V k ∧ z = -1) ∨ (brC V k ∧ isStl (nBr V k.toNat) (EB V k.toNat) z))) := by
  have x1 := hb.1
  have x2 := hb.2.1
  have x3 := hb.2.2.1
  refine sX11_settles k ⟨fun h => ⟨_, rfl, FrX.rf, Or.inl ⟨fun q => by have := q.1; omega, rfl⟩⟩, fun h => ⟨fun h2 => ⟨_, rfl, FrX.rf, Or.inl ⟨fun q => by have := q.2; omega, rfl⟩⟩, fun h2 => ⟨⟨by omega, by omega⟩, ?_⟩⟩⟩
  obtain ⟨i, rfl⟩ : ∃ i : Nat, k = i := ⟨k.toNat, by omega⟩
  obtain ⟨n, y1, y2, y3, y4, y5, y6, y7, y8, y9⟩ := hb.at (show i < B by omega)
  simp only [tn]
  have en : nBr V i = n := by show (V 381 (85 + i)).toNat = n; rw [y3, tn]
  refine (c_raise (d := d) (m := 21) y1 (by omega) y2 y5 rfl y9 (by omega) (by omega) hE).use (fun z V2 ⟨k1, k2, t, k3, k4, k5, k6, k7⟩ => ?_)
  have fr : FrX V V2 := fun c hc => k1 c (by omega)
  refine ⟨fun c => ⟨_, rfl, fr, Or.inr ⟨⟨by omega, by omega⟩, ?_⟩⟩, fun c => ⟨_, rfl, fr, Or.inr ⟨⟨by omega, by omega⟩, ?_⟩⟩⟩
  · rw [en]
    exact isStl.congr y7 (Or.inl ⟨rfl, fun u u1 u2 => k7 u u1 (by omega)⟩)
  · rw [en]
    exact isStl.congr y7 (Or.inr ⟨t, k3, k4, by omega, k6 (by omega), k7⟩)
theorem x_knit (hb : CpBr V 43 (V 381) B) (k i : Int) : Mi K (d + 2) mX11_knit [vR 0, vI k, vI i] V (fun z V' => FrX V V' ∧ z = if brC V k ∧ 0 ≤ i ∧ i < 45 then knR (EB V k.toNat) (nBr V k.toNat) i 0 45 (fun s => s) else -1) := by
  have x1 := hb.1
  have x2 := hb.2.1
  have x3 := hb.2.2.1
  have no : ¬ (brC V k ∧ 0 ≤ i ∧ i < 45) → ∃ z, some (vI (-1)) = some (vI z) ∧ FrX V V ∧ z = if brC V k ∧ 0 ≤ i ∧ i < 45 then knR (EB V k.toNat) (nBr V k.toNat) i 0 45 (fun s => s) else -1 := fun c => ⟨_, rfl, FrX.rf, by rw [if_neg c]⟩
  refine sX11_knit k i ⟨fun h => no (fun q => by have := q.1.1; omega), fun h => ⟨fun h2 => no (fun q => by have := q.1.2; omega), fun h2 => ⟨⟨by omega, by omega⟩, fun h3 => no (fun q => by omega), fun h3 => ⟨fun h4 => ?_, fun h4 => no (fun q => by omega)⟩⟩⟩⟩
  obtain ⟨b, rfl⟩ : ∃ b : Nat, k = b := ⟨k.toNat, by omega⟩
  obtain ⟨n, y1, y2, y3, y4, y5, y6, y7, y8, y9⟩ := hb.at (show b < B by omega)
  simp only [tn]
  have en : nBr V b = n := by show (V 381 (85 + b)).toNat = n; rw [y3, tn]
  refine (c_knitStep (d := d) y1 (by omega) y2 y5 y4).use (fun z V2 ⟨k1, k2⟩ => ⟨_, rfl, fun c hc => k1 c (by omega), ?_⟩)
  rw [if_pos ⟨⟨by omega, by omega⟩, by omega, by omega⟩, k2, en]
  exact knR_congr y7 45 0 _ (fun s hs => hs)
theorem x_below (hb : CpBr V 43 (V 381) B) (x y : Int) : Mi K (d + 2) mX11_below [vR 0, vI x, vI y] V (fun z V' => FrX V V' ∧ (z = 0 ∨ z = 1) ∧ (z = 1 ↔ alC V x y ∧ ∀ i k, i ≤ nBr V x.toNat → k ≤ nBr V x.toNat → ctn (EB V x.toNat) (nBr V x.toNat) i k ≤ ctn (EB V y.toNat) (nBr V x.toNat) i k)) := by
  have x1 := hb.1
  have x2 := hb.2.1
  have x3 := hb.2.2.1
  have no : ¬ alC V x y → ∃ z, some (vI 0) = some (vI z) ∧ FrX V V ∧ (z = 0 ∨ z = 1) ∧ (z = 1 ↔ alC V x y ∧ ∀ i k, i ≤ nBr V x.toNat → k ≤ nBr V x.toNat → ctn (EB V x.toNat) (nBr V x.toNat) i k ≤ ctn (EB V y.toNat) (nBr V x.toNat) i k) := fun c => ⟨_, rfl, FrX.rf, Or.inl rfl, ⟨fun q => absurd q (by decide), fun q => absurd q.1 c⟩⟩
  refine sX11_below x y ⟨fun h => ?_, fun h => ⟨fun h2 => ?_, fun h2 => ⟨⟨by omega, by omega⟩, fun h3 => no (fun q => by have := q.2.1.1; omega), fun h3 => ⟨fun h4 => no (fun q => by have := q.2.1.2; omega), fun h4 => ⟨⟨by omega, by omega⟩, ?_⟩⟩⟩⟩⟩
  · have n1 := no (fun q => by have := q.1.1; omega)
    exact ⟨fun _ => n1, fun h3 => ⟨fun _ => n1, fun h4 => ⟨⟨by omega, by omega⟩, n1⟩⟩⟩
  · have n1 := no (fun q => by have := q.1.2; omega)
    exact ⟨fun _ => n1, fun h3 => ⟨fun _ => n1, fun h4 => ⟨⟨by omega, by omega⟩, n1⟩⟩⟩
  · obtain ⟨i, rfl⟩ : ∃ i : Nat, x = i := ⟨x.toNat, by omega⟩
    obtain ⟨j, rfl⟩ : ∃ j : Nat, y = j := ⟨y.toNat, by omega⟩
    obtain ⟨n, y1, y2, y3, y4, y5, y6, y7, y8, y9⟩ := hb.at (show i < B by omega)
    obtain ⟨m, z1, z2, z3, z4, z5, z6, z7, z8, z9⟩ := hb.at (show j < B by omega)
    simp only [tn] at no ⊢
    have en : nBr V i = n := by show (V 381 (85 + i)).toNat = n; rw [y3, tn]
    rw [y2, z2]
    refine ⟨fun c => no (fun q => c (by have := q.2.2; rw [tn, tn, y3, z3] at this; exact this)), fun c => ?_⟩
    have e : m = n := by omega
    subst e
    have hal : alC V (i : Int) (j : Int) := ⟨⟨by omega, by omega⟩, ⟨by omega, by omega⟩, by rw [tn, tn, y3, z3]⟩
    refine (c_isUnder (d := d) y1 z1 (by omega) (by omega) y2 z2 y5).use (fun z V2 ⟨k1, k2⟩ => ?_)
    have fr : FrX V V2 := fun c hc => k1 c (by omega)
    rcases k2 with ⟨rfl, q⟩ | ⟨rfl, a, b, q1, q2, q⟩
    · refine ⟨fun w => absurd w (by decide), fun _ => ⟨_, rfl, fr, Or.inr rfl, ⟨fun _ => ⟨hal, fun a b h5 h6 => ?_⟩, fun _ => rfl⟩⟩⟩
      rw [en] at h5 h6 ⊢
      rw [← ctn_congr y7 h5, ← ctn_congr z7 h5]
      exact q a b h5 h6
    · refine ⟨fun _ => ⟨_, rfl, fr, Or.inl rfl, ⟨fun w => absurd w (by decide), fun w => absurd ?_ q⟩⟩, fun w => absurd rfl w⟩
      have := w.2 a b (by rw [en]; exact q1) (by rw [en]; exact q2)
      rw [en, ← ctn_congr y7 q1, ← ctn_congr z7 q1] at this
      exact this
end CBX
