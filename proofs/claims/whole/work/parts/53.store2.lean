/-! ===== the class's store: braids, copies ===== -/
/-- a crossing may be laid at x -/
def crC (e : Nat → Int) (n : Nat) (x : Int) : Prop := x + 1 < n ∧ ∃ s t : Nat, s < t ∧ t < n ∧ e s = x ∧ e t = x + 1
section CSB
variable {K : KK} {d : Nat} {V : Mem} {a R B : Nat} {g kd : Nat → Int}
theorem PermOK.fst {e : Nat → Int} {n : Nat} (h : PermOK e n) {x z : Int} (h0 : 0 ≤ x) (hz : isFst e n x z) : (x < n ∧ ∃ s : Nat, z = s ∧ s < n ∧ e s = x) ∨ (¬ x < n ∧ z = -1) := by
  rcases hz with ⟨h1, h2⟩ | ⟨s, h1, h2, h3, h4⟩
  · refine Or.inr ⟨fun c => ?_, h1⟩
    obtain ⟨s, s1, s2⟩ := h.2.2 x.toNat (by omega)
    exact h2 s s1 (by omega)
  · have := h.1 s h2
    exact Or.inl ⟨by omega, s, h1, h2, h3⟩
theorem c_exchangeAt {b n : Nat} {x : Int} (h0 : IsBraid b) (hn : V b 2 = n) (h10 : n ≤ 10) (hp : PermOK (V (b + 1)) n) (hx : 0 ≤ x) (hx2 : x < 10) : Mi K (d + 1) mX0_exchangeAt [vR b, vI x] V (fun z V' => (x + 1 < n ∧ z = 1 ∧ (∀ c, c ≠ b + 1 → V' c = V c) ∧ ∀ s, s < n → V' (b + 1) s = swv x (V (b + 1) s)) ∨ (¬ x + 1 < n ∧ z = 0 ∧ V' = V)) := by
  refine sX0_exchangeAt b x h0 ((c_strandAt (d := d) h0 hn h10 x).use (fun z1 V1 ⟨f1, e1⟩ => ?_))
  subst e1
  rw [w32_id (x := x + 1) (by omega) (by omega)]
  refine (c_strandAt (d := d) h0 hn h10 (x + 1)).use (fun z2 V2 ⟨f2, e2⟩ => ?_)
  subst e2
  have q1 := hp.fst hx f1
  have q2 := hp.fst (show 0 ≤ x + 1 by omega) f2
  rcases q2 with ⟨q2, t, rfl, t1, t2⟩ | ⟨q2, rfl⟩
  · rcases q1 with ⟨q1, s, rfl, s1, s2⟩ | ⟨q1, rfl⟩
    · refine ⟨fun c => by omega, fun _ => ⟨fun _ => ⟨⟨by omega, by omega⟩, ⟨by omega, by omega⟩, _, rfl, Or.inl ⟨q2, rfl, fun c q => by rw [upm_off c q, upm_off c q], fun u hu => ?_⟩⟩, fun c => by omega⟩⟩
      rw [tn, tn]
      unfold swv
      by_cases c1 : u = t
      · rw [c1, upm_s, t2, if_neg (by omega), if_pos rfl]
      · rw [upm_k c1]
        by_cases c2 : u = s
        · rw [c2, upm_s, s2, if_pos rfl]
        · rw [upm_k c2, if_neg (fun q => c2 (hp.2.1 u s hu s1 (q.trans s2.symm))), if_neg (fun q => c1 (hp.2.1 u t hu t1 (q.trans t2.symm)))]
    · omega
  · refine ⟨fun _ => ⟨_, rfl, Or.inr ⟨q2, rfl, rfl⟩⟩, fun _ => ⟨fun c => absurd rfl c, fun _ => ⟨_, rfl, Or.inr ⟨q2, rfl, rfl⟩⟩⟩⟩
theorem c_crossAt {b n : Nat} {x : Int} (h0 : IsBraid b) (hn : V b 2 = n) (h10 : n ≤ 10) (hp : PermOK (V (b + 1)) n) (hx : 0 ≤ x) (hx2 : x < 10) : Mi K (d + 2) mX0_crossAt [vR b, vI x] V (fun z V' => (crC (V (b + 1)) n x ∧ z = 1 ∧ (∀ c, c ≠ b + 1 → V' c = V c) ∧ ∀ s, s < n → V' (b + 1) s = swv x (V (b + 1) s)) ∨ (¬ crC (V (b + 1)) n x ∧ z = 0 ∧ V' = V)) := by
  refine sX0_crossAt b x h0 ((c_strandAt (d := d + 1) h0 hn h10 x).use (fun z1 V1 ⟨f1, e1⟩ => ?_))
  subst e1
  rw [w32_id (x := x + 1) (by omega) (by omega)]
  refine (c_strandAt (d := d + 1) h0 hn h10 (x + 1)).use (fun z2 V2 ⟨f2, e2⟩ => ?_)
  subst e2
  have q1 := hp.fst hx f1
  have q2 := hp.fst (show 0 ≤ x + 1 by omega) f2
  have nn : ∀ s t : Nat, z1 = s → z2 = t → crC (V2 (b + 1)) n x → s < n → t < n → V2 (b + 1) s = x → V2 (b + 1) t = x + 1 → s < t := by
    rintro s t - - ⟨k1, u, v, k2, k3, k4, k5⟩ s1 t1 s2 t2
    have := hp.2.1 s u s1 (by omega) (s2.trans k4.symm)
    have := hp.2.1 t v t1 (by omega) (t2.trans k5.symm)
    omega
  refine ⟨fun c => ?_, fun c => ⟨_, rfl, Or.inr ⟨fun w => ?_, rfl, rfl⟩⟩⟩
  · refine (c_exchangeAt (d := d) h0 hn h10 hp hx hx2).use (fun z V' hz => ?_)
    rcases hz with ⟨k1, rfl, k2, k3⟩ | ⟨k1, rfl, rfl⟩
    · refine ⟨Or.inr rfl, _, rfl, Or.inl ⟨⟨k1, ?_⟩, rfl, k2, k3⟩⟩
      rcases q1 with ⟨q1, s, rfl, s1, s2⟩ | ⟨q1, rfl⟩
      · rcases q2 with ⟨q2, t, rfl, t1, t2⟩ | ⟨q2, rfl⟩
        · refine ⟨s, t, ?_, t1, s2, t2⟩
          have : s ≠ t := fun w => by rw [w, t2] at s2; omega
          omega
        · omega
      · omega
    · exact ⟨Or.inl rfl, _, rfl, Or.inr ⟨fun w => k1 w.1, rfl, rfl⟩⟩
  · have k1 := w.1
    rcases q1 with ⟨q1, s, e1, s1, s2⟩ | ⟨q1, e1⟩
    · rcases q2 with ⟨q2, t, e2, t1, t2⟩ | ⟨q2, e2⟩
      · have := nn s t e1 e2 w s1 t1 s2 t2
        omega
      · omega
    · omega
theorem CpB0.isb (h : CpB0 V a g B) (h0 : IsStore a) {k : Nat} (hk : k < 8) : IsBraid (a + 14 + 2 * k) := h0.2.2.2.2.2.2.2 k hk
/-- what stays of braids where one braid's ends alone are written -/
theorem CpB0.one {V' : Mem} {g' : Nat → Int} {w n : Nat} (h : CpB0 V a g B) (hw : w < B) (hf : ∀ c, c ≠ a + 15 + 2 * w → V' c = V c) (hn : g (85 + w) = n) (hg : ∀ i, 84 ≤ i → i < 181 → i < 101 + 10 * w ∨ 101 + 10 * w + n ≤ i → g' i = g i) (he : ∀ s, s < n → V' (a + 15 + 2 * w) s = g' (101 + 10 * w + s)) (hp : PermOK (fun s => g' (101 + 10 * w + s)) n) : CpB0 V' a g' B := by
  have hB := h.2.2.1
  refine ⟨by rw [hf a (by omega)]; exact h.1, by rw [hg 84 (by omega) (by omega) (by omega)]; exact h.2.1, hB, fun k hk => ?_⟩
  obtain ⟨m, a1, a2, a3, a4, a5, a6⟩ := h.2.2.2 k hk
  by_cases c : k = w
  · subst c
    have e : m = n := by omega
    subst e
    exact ⟨m, by rw [hf _ (by omega)]; exact a1, by rw [hg _ (by omega) (by omega) (by omega)]; exact a2, a3, a4, he, hp⟩
  · have hn10 : n ≤ 10 := by
      obtain ⟨n', b1, b2, b3, b4, -⟩ := h.2.2.2 w hw
      omega
    have e : ∀ s, s < m → g' (101 + 10 * k + s) = g (101 + 10 * k + s) := fun s hs => hg _ (by omega) (by omega) (by omega)
    exact ⟨m, by rw [hf _ (by omega)]; exact a1, by rw [hg _ (by omega) (by omega) (by omega)]; exact a2, a3, a4, fun s hs => by rw [hf _ (by omega), e s hs]; exact a5 s hs, a6.congr e⟩
theorem crC.congr {e e2 : Nat → Int} {n : Nat} {x : Int} (h : ∀ s, s < n → e s = e2 s) : crC e n x ↔ crC e2 n x := by
  constructor
  · rintro ⟨k1, s, t, k2, k3, k4, k5⟩
    exact ⟨k1, s, t, k2, k3, by rw [← h s (by omega)]; exact k4, by rw [← h t k3]; exact k5⟩
  · rintro ⟨k1, s, t, k2, k3, k4, k5⟩
    exact ⟨k1, s, t, k2, k3, by rw [h s (by omega)]; exact k4, by rw [h t k3]; exact k5⟩
abbrev cwC (g : Nat → Int) (B : Nat) (w x : Int) : Prop := (0 ≤ w ∧ w < B) ∧ 0 ≤ x ∧ crC (fun s => g (101 + 10 * w.toNat + s)) (g (85 + w.toNat)).toNat x
theorem CpB0.crs {V' : Mem} {g' : Nat → Int} {w n : Nat} {x : Int} (h : CpB0 V a g B) (hw : w < B) (hn : g (85 + w) = n) (h0 : 0 ≤ x) (h1 : x + 1 < n) (hf : ∀ c, c ≠ a + 15 + 2 * w → V' c = V c) (hs : ∀ s, s < n → V' (a + 15 + 2 * w) s = swv x (g (101 + 10 * w + s))) (hl : Lcrs w x g g') : CpB0 V' a g' B := by
  obtain ⟨l1, l2⟩ := hl
  rw [hn, tn] at l1 l2
  obtain ⟨m, a1, a2, a3, a4, a5, a6⟩ := h.2.2.2 w hw
  have e : m = n := by omega
  subst e
  refine h.one hw hf hn (fun i q1 q2 q3 => l2 i q2 q3) (fun s q => by rw [hs s q, l1 s q]) ((swv_perm a6 h0 h1).congr (fun s q => l1 s q))
theorem c_crossOver (h0 : IsStore a) (h : CpB0 V a g B) (w x : Int) : Mi K (d + 3) mX7_crossOver [vR a, vI w, vI x] V (fun z V' => (cwC g B w x ∧ z = 1 ∧ (∀ c, c ≠ a + 15 + 2 * w.toNat → V' c = V c) ∧ ∀ g', Lcrs w.toNat x g g' → CpB0 V' a g' B) ∨ (¬ cwC g B w x ∧ z = 0 ∧ V' = V)) := by
  have hB := h.2.2.1
  have h6 := h.1
  refine sX7_crossOver a w x h0 ⟨fun c => ⟨_, rfl, Or.inr ⟨fun q => by have := q.1.1; omega, rfl, rfl⟩⟩, fun c1 => ⟨fun c => ⟨_, rfl, Or.inr ⟨fun q => by have := q.1.2; omega, rfl, rfl⟩⟩, fun c2 => ⟨⟨by omega, by omega⟩, fun c => ⟨_, rfl, Or.inr ⟨fun q => by have := q.2.1; omega, rfl, rfl⟩⟩, fun c3 => ?_⟩⟩⟩
  obtain ⟨i, rfl⟩ : ∃ i : Nat, w = i := ⟨w.toNat, by omega⟩
  have hi : i < B := by omega
  obtain ⟨n, a1, a2, a3, a4, a5, a6⟩ := h.2.2.2 i hi
  simp only [tn]
  have e15 : a + 14 + 2 * i + 1 = a + 15 + 2 * i := by omega
  have a5' : ∀ s, s < n → V (a + 14 + 2 * i + 1) s = g (101 + 10 * i + s) := fun s hs => by rw [e15]; exact a5 s hs
  refine ⟨fun c => ⟨_, rfl, Or.inr ⟨fun q => ?_, rfl, trivial⟩⟩, fun c4 => ?_⟩
  · have := q.2.2.1
    rw [tn, a2, tn] at this
    omega
  · refine (c_crossAt (d := d) (h.isb h0 (show i < 8 by omega)) a1 a4 (a6.congr a5') (by omega) (by omega)).use (fun z V' hz => ?_)
    rw [crC.congr a5'] at hz
    rcases hz with ⟨k1, rfl, k2, k3⟩ | ⟨k1, rfl, rfl⟩
    · refine ⟨fun c => absurd c (by decide), fun _ => ⟨_, rfl, Or.inl ⟨⟨⟨by omega, by omega⟩, by omega, by rw [tn, a2, tn]; exact k1⟩, rfl, fun c q => k2 c (by omega), fun g' hg => ?_⟩⟩⟩
      refine h.crs hi a2 (by omega) k1.1 (fun c q => k2 c (by omega)) (fun s hs => ?_) hg
      rw [← e15, k3 s hs, a5' s hs]
    · exact ⟨fun _ => ⟨_, rfl, Or.inr ⟨fun q => k1 (by have := q.2.2; rw [tn, a2, tn] at this; exact this), rfl, rfl⟩⟩, fun c => absurd rfl c⟩
theorem c_crossBack {w : Nat} {x : Int} (h0 : IsStore a) (h : CpB0 V a g B) (hw : w < B) (hx : 0 ≤ x) (hx1 : x + 1 < (g (85 + w)).toNat) : Mv K (d + 2) mX7_crossBack [vR a, vI (w : Int), vI x] V (fun V' => (∀ c, c ≠ a + 15 + 2 * w → V' c = V c) ∧ ∀ g', Lcrs w x g g' → CpB0 V' a g' B) := by
  have hB := h.2.2.1
  have h6 := h.1
  obtain ⟨n, a1, a2, a3, a4, a5, a6⟩ := h.2.2.2 w hw
  rw [a2, tn] at hx1
  have e15 : a + 14 + 2 * w + 1 = a + 15 + 2 * w := by omega
  have a5' : ∀ s, s < n → V (a + 14 + 2 * w + 1) s = g (101 + 10 * w + s) := fun s hs => by rw [e15]; exact a5 s hs
  refine sX7_crossBack a _ x h0 ⟨fun c => by omega, fun _ => ⟨fun c => by omega, fun _ => ⟨⟨by omega, by omega⟩, ?_⟩⟩⟩
  rw [tn]
  refine (c_exchangeAt (d := d) (h.isb h0 (show w < 8 by omega)) a1 a4 (a6.congr a5') hx (by omega)).use (fun z V' hz => ?_)
  rcases hz with ⟨k1, rfl, k2, k3⟩ | ⟨k1, rfl, rfl⟩
  · refine ⟨rfl, fun c q => k2 c (by omega), fun g' hg => h.crs hw a2 hx k1 (fun c q => k2 c (by omega)) (fun s hs => ?_) hg⟩
    rw [← e15, k3 s hs, a5' s hs]
  · exact absurd hx1 k1
/-- a braid is kept: what the new block says -/
def Lkep (x y : Nat) (g g' : Nat → Int) : Prop := g' 84 = g 84 + 1 ∧ g' (85 + (g 84).toNat) = g (85 + x) ∧ (∀ s, s < (g (85 + x)).toNat → g' (101 + 10 * (g 84).toNat + s) = cmp (g (85 + x)).toNat (fun s => g (101 + 10 * x + s)) (fun s => g (101 + 10 * y + s)) s) ∧ ∀ i, i < 181 → i ≠ 84 → i ≠ 85 + (g 84).toNat → i ≠ 93 + (g 84).toNat → i < 101 + 10 * (g 84).toNat ∨ 111 + 10 * (g 84).toNat ≤ i → g' i = g i
theorem Lkep.drp {x y : Nat} {g g' : Nat → Int} (h : Lkep x y g g') : Ldrp g' g := ⟨by rw [h.1]; omega, fun i h1 h2 h3 h4 h5 => (h.2.2.2 i h1 h2 h3 h4 h5).symm⟩
abbrev kpC (g : Nat → Int) (B : Nat) (x y : Int) : Prop := ((0 ≤ x ∧ x < B) ∧ 0 ≤ y ∧ y < B) ∧ g (85 + x.toNat) = g (85 + y.toNat) ∧ B < 8
theorem c_combine (h0 : IsStore a) (ha : a + 31 < 209) (h : CpB0 V a g B) (x y : Int) : Mi K (d + 3) mX7_combine [vR a, vI x, vI y, vR 204] V (fun z V' => (kpC g B x y ∧ z = B ∧ (∀ c, c ≠ a → c ≠ a + 14 + 2 * B → c ≠ a + 15 + 2 * B → c < 210 ∨ 245 ≤ c → V' c = V c) ∧ (∀ j, j ≠ 6 → V' a j = V a j) ∧ (∀ j, j ≠ 2 → V' (a + 14 + 2 * B) j = V (a + 14 + 2 * B) j) ∧ ∀ g', Lkep x.toNat y.toNat g g' → CpB0 V' a g' (B + 1)) ∨ (¬ kpC g B x y ∧ z = -1 ∧ V' = V)) := by
  have hB := h.2.2.1
  have h6 := h.1
  have no : ¬ kpC g B x y → ∃ z, some (vI (-1)) = some (vI z) ∧ ((kpC g B x y ∧ z = B ∧ (∀ c, c ≠ a → c ≠ a + 14 + 2 * B → c ≠ a + 15 + 2 * B → c < 210 ∨ 245 ≤ c → V c = V c) ∧ (∀ j, j ≠ 6 → V a j = V a j) ∧ (∀ j, j ≠ 2 → V (a + 14 + 2 * B) j = V (a + 14 + 2 * B) j) ∧ ∀ g', Lkep x.toNat y.toNat g g' → CpB0 V a g' (B + 1)) ∨ (¬ kpC g B x y ∧ z = -1 ∧ V = V)) := fun c => ⟨_, rfl, Or.inr ⟨c, rfl, rfl⟩⟩
  refine sX7_combine a x y h0 ⟨fun c1 => ?_, fun c1 => ⟨fun c2 => ?_, fun c2 => ⟨⟨by omega, by omega⟩, fun c3 => no (fun q => by have := q.1.2.1; omega), fun c3 => ⟨fun c4 => no (fun q => by have := q.1.2.2; omega), fun c4 => ⟨⟨by omega, by omega⟩, ?_⟩⟩⟩⟩⟩
  · have n1 := no (fun q => by have := q.1.1.1; omega)
    exact ⟨fun _ => n1, fun _ => ⟨fun _ => n1, fun _ => ⟨⟨by omega, by omega⟩, n1⟩⟩⟩
  · have n1 := no (fun q => by have := q.1.1.2; omega)
    exact ⟨fun _ => n1, fun _ => ⟨fun _ => n1, fun _ => ⟨⟨by omega, by omega⟩, n1⟩⟩⟩
  · obtain ⟨i, rfl⟩ : ∃ i : Nat, x = i := ⟨x.toNat, by omega⟩
    obtain ⟨j, rfl⟩ : ∃ j : Nat, y = j := ⟨y.toNat, by omega⟩
    obtain ⟨n, a1, a2, a3, a4, a5, a6⟩ := h.2.2.2 i (by omega)
    obtain ⟨m, b1, b2, b3, b4, b5, b6⟩ := h.2.2.2 j (by omega)
    rw [h6, tn, tn, tn, a1, b1]
    refine ⟨fun c => no (fun q => c (by have := q.2.1; rw [tn, tn, a2, b2] at this; exact this)), fun c => ⟨fun c5 => ⟨⟨by omega, by omega⟩, ?_⟩, fun c5 => no (fun q => by have := q.2.2; omega)⟩⟩
    have e : m = n := by omega
    subst e
    have a5' : ∀ s, s < m → V (a + 14 + 2 * i + 1) s = g (101 + 10 * i + s) := fun s hs => by rw [show a + 14 + 2 * i + 1 = a + 15 + 2 * i by omega]; exact a5 s hs
    have b5' : ∀ s, s < m → V (a + 14 + 2 * j + 1) s = g (101 + 10 * j + s) := fun s hs => by rw [show a + 14 + 2 * j + 1 = a + 15 + 2 * j by omega]; exact b5 s hs
    refine (c_join (d := d) (h.isb h0 (show i < 8 by omega)) (h.isb h0 (show j < 8 by omega)) (h.isb h0 (show B < 8 by omega)) (by omega) (by omega) (by omega) a1 b1 a4 (a6.congr a5') (b6.congr b5')).use (fun V' ⟨k1, k2, k3, k4⟩ => ?_)
    have ea : V' a = V a := k1 a (by omega) (by omega) (by omega)
    refine ⟨_, rfl, Or.inl ⟨⟨⟨⟨by omega, by omega⟩, by omega, by omega⟩, by rw [tn, tn, a2, b2], by omega⟩, ?_, fun c q1 q2 q3 q4 => by rw [upm_off c q1]; exact k1 c q2 (by omega) q4, fun j q => by rw [upm_k q, ea], fun j q => by rw [upm_a (by omega)]; exact k2 j q, fun g' hg => ?_⟩⟩
    · rw [upm_s, ea, h6, w32_s (i := B) (by omega), w32_p (i := B) (by omega)]
    · obtain ⟨l1, l2, l3, l4⟩ := hg
      rw [h.2.1, a2, tn, tn] at l3
      rw [h.2.1, tn] at l2 l4
      rw [h.2.1] at l1
      refine ⟨by rw [upm_s, ea, h6, w32_s (i := B) (by omega)], by omega, by omega, fun k hk => ?_⟩
      by_cases ck : k = B
      · subst ck
        refine ⟨m, by rw [upm_a (by omega)]; exact k3, by rw [l2, a2], a3, a4, fun s hs => ?_, (cmp_perm a6 b6).congr (fun s hs => l3 s hs)⟩
        rw [upm_a (by omega), show a + 15 + 2 * k = a + 14 + 2 * k + 1 by omega, k4 s hs, l3 s hs]
        exact cmp_congr a5' b5' hs
      · obtain ⟨n', c1', c2', c3', c4', c5', c6'⟩ := h.2.2.2 k (by omega)
        have eg : ∀ s, s < n' → g' (101 + 10 * k + s) = g (101 + 10 * k + s) := fun s hs => l4 _ (by omega) (by omega) (by omega) (by omega) (by omega)
        refine ⟨n', ?_, ?_, c3', c4', fun s hs => ?_, c6'.congr eg⟩
        · rw [upm_a (by omega), k1 _ (by omega) (by omega) (by omega)]; exact c1'
        · rw [l4 _ (by omega) (by omega) (by omega) (by omega) (by omega)]; exact c2'
        · rw [upm_a (by omega), k1 _ (by omega) (by omega) (by omega), eg s hs]; exact c5' s hs
/-- a braid is dropped -/
theorem CpB0.drop {V' : Mem} {g' : Nat → Int} (h : CpB0 V a g (B + 1)) (h6 : V' a 6 = B) (hf : ∀ c, c ≠ a → V' c = V c) (hl : Ldrp g g') : CpB0 V' a g' B := by
  obtain ⟨l1, l2⟩ := hl
  have hB := h.2.2.1
  rw [h.2.1] at l1
  have l1' : g' 84 = (B : Int) := by omega
  rw [l1', tn] at l2
  refine ⟨h6, l1', by omega, fun k hk => ?_⟩
  obtain ⟨n', c1', c2', c3', c4', c5', c6'⟩ := h.2.2.2 k (by omega)
  have eg : ∀ s, s < n' → g' (101 + 10 * k + s) = g (101 + 10 * k + s) := fun s hs => l2 _ (by omega) (by omega) (by omega) (by omega) (by omega)
  refine ⟨n', ?_, ?_, c3', c4', fun s hs => ?_, c6'.congr eg⟩
  · rw [hf _ (by omega)]; exact c1'
  · rw [l2 _ (by omega) (by omega) (by omega) (by omega) (by omega)]; exact c2'
  · rw [hf _ (by omega), eg s hs]; exact c5' s hs
end CSB
