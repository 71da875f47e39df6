/-! ===== deeds on pure blocks; blocks alike where it matters; the reference's start ===== -/
def gApp (w : Nat) (x : Int) (g : Nat → Int) (i : Nat) : Int := if i = w then g w + 1 else if i = 4 + 20 * w + (g w).toNat then x else g i
def gCut (w : Nat) (g : Nat → Int) (i : Nat) : Int := if i = w then g w - 1 else g i
def gTrn (w : Nat) (g : Nat → Int) (i : Nat) : Int := if 4 + 20 * w ≤ i ∧ i < 4 + 20 * w + (g w).toNat then g (4 + 20 * w + ((g w).toNat - 1 - (i - (4 + 20 * w)))) else g i
def gCrs (k : Nat) (x : Int) (g : Nat → Int) (i : Nat) : Int := if 101 + 10 * k ≤ i ∧ i < 101 + 10 * k + (g (85 + k)).toNat then swv x (g i) else g i
def gKep (x y : Nat) (g : Nat → Int) (i : Nat) : Int := if i = 84 then g 84 + 1 else if i = 85 + (g 84).toNat then g (85 + x) else if 101 + 10 * (g 84).toNat ≤ i ∧ i < 111 + 10 * (g 84).toNat then cmp (g (85 + x)).toNat (fun s => g (101 + 10 * x + s)) (fun s => g (101 + 10 * y + s)) (i - (101 + 10 * (g 84).toNat)) else g i
theorem gApp_L {w : Nat} {x : Int} {g : Nat → Int} (hw : w < 4) : Lapp w x g (gApp w x g) := by
  refine ⟨if_pos rfl, ?_, fun i _ q2 q3 => ?_⟩
  · unfold gApp; rw [if_neg (by omega), if_pos rfl]
  · unfold gApp; rw [if_neg q2, if_neg q3]
theorem gCut_L {w : Nat} {g : Nat → Int} : Lcut w g (gCut w g) := ⟨if_pos rfl, fun i _ q2 _ => if_neg q2⟩
theorem gTrn_L {w : Nat} {g : Nat → Int} (hw : w < 4) : Ltrn w g (gTrn w g) := by
  refine ⟨?_, fun p hp => ?_, fun i _ q => ?_⟩
  · unfold gTrn; rw [if_neg (by omega)]
  · unfold gTrn; rw [if_pos (by omega), show 4 + 20 * w + p - (4 + 20 * w) = p by omega]
  · unfold gTrn; rw [if_neg (by omega)]
theorem gCrs_L {k : Nat} {x : Int} {g : Nat → Int} : Lcrs k x g (gCrs k x g) := by
  refine ⟨fun s hs => ?_, fun i _ q => ?_⟩
  · unfold gCrs; rw [if_pos (by omega)]
  · unfold gCrs; rw [if_neg (by omega)]
theorem gKep_L {x y : Nat} {g : Nat → Int} (h8 : (g 84).toNat < 8) (hn : (g (85 + x)).toNat ≤ 10) : Lkep x y g (gKep x y g) := by
  refine ⟨if_pos rfl, ?_, fun s hs => ?_, fun i _ q1 q2 q3 q4 => ?_⟩
  · unfold gKep; rw [if_neg (by omega), if_pos rfl]
  · unfold gKep; rw [if_neg (by omega), if_neg (by omega), if_pos (by omega), show 101 + 10 * (g 84).toNat + s - (101 + 10 * (g 84).toNat) = s by omega]
  · unfold gKep; rw [if_neg q1, if_neg q2, if_neg (by omega)]
/-- two blocks are alike in rows and braids -/
def EqM (R : Nat) (g h : Nat → Int) : Prop := (∀ r, r < R → h r = g r ∧ ∀ p, p < (g r).toNat → h (4 + 20 * r + p) = g (4 + 20 * r + p)) ∧ h 84 = g 84 ∧ ∀ k, k < (g 84).toNat → h (85 + k) = g (85 + k) ∧ ∀ s, s < (g (85 + k)).toNat → h (101 + 10 * k + s) = g (101 + 10 * k + s)
/-- a block whose rows and braids are of their sizes -/
def bOK (R : Nat) (g : Nat → Int) : Prop := R ≤ 4 ∧ (∀ r, r < R → 1 ≤ g r ∧ g r ≤ 20) ∧ (0 ≤ g 84 ∧ g 84 ≤ 8) ∧ ∀ k, k < (g 84).toNat → 1 ≤ g (85 + k) ∧ g (85 + k) ≤ 10 ∧ PermOK (fun s => g (101 + 10 * k + s)) (g (85 + k)).toNat
theorem EqM.app {R w : Nat} {x : Int} {g h g' h' : Nat → Int} (e : EqM R g h) (b : bOK R g) (hw : w < R) (h20 : g w < 20) (l : Lapp w x g g') (l' : Lapp w x h h') : EqM R g' h' := by
  obtain ⟨b1, b2, b3, b4⟩ := b
  obtain ⟨e1, e2, e3⟩ := e
  obtain ⟨a1, a2, a3⟩ := l
  obtain ⟨c1, c2, c3⟩ := l'
  rw [(e1 w hw).1] at c1 c2 c3
  have bw := b2 w hw
  have o : ∀ i, i < 181 → i ≠ w → i ≠ 4 + 20 * w + (g w).toNat → h i = g i → h' i = g' i := fun i q1 q2 q3 q4 => by rw [a3 i q1 q2 q3, c3 i q1 q2 q3, q4]
  have g84 : g' 84 = g 84 := a3 84 (by omega) (by omega) (by omega)
  refine ⟨fun r hr => ?_, o 84 (by omega) (by omega) (by omega) e2, fun k hk => ?_⟩
  · by_cases c : r = w
    · subst c
      refine ⟨by rw [a1, c1], fun p hp => ?_⟩
      rw [a1] at hp
      by_cases q : p = (g r).toNat
      · rw [q, a2, c2]
      · exact o _ (by omega) (by omega) (by omega) ((e1 r hr).2 p (by omega))
    · have br := b2 r hr
      have gr : g' r = g r := a3 r (by omega) c (by omega)
      refine ⟨o r (by omega) c (by omega) (e1 r hr).1, fun p hp => ?_⟩
      rw [gr] at hp
      exact o _ (by omega) (by omega) (by omega) ((e1 r hr).2 p hp)
  · rw [g84] at hk
    have bk := b4 k hk
    have gk : g' (85 + k) = g (85 + k) := a3 _ (by omega) (by omega) (by omega)
    refine ⟨o _ (by omega) (by omega) (by omega) (e3 k hk).1, fun s hs => ?_⟩
    rw [gk] at hs
    exact o _ (by omega) (by omega) (by omega) ((e3 k hk).2 s hs)
theorem EqM.cut {R w : Nat} {g h g' h' : Nat → Int} (e : EqM R g h) (b : bOK R g) (hw : w < R) (h1 : 1 < g w) (l : Lcut w g g') (l' : Lcut w h h') : EqM R g' h' := by
  obtain ⟨b1, b2, b3, b4⟩ := b
  obtain ⟨e1, e2, e3⟩ := e
  obtain ⟨a1, a3⟩ := l
  obtain ⟨c1, c3⟩ := l'
  rw [(e1 w hw).1] at c1
  have bw := b2 w hw
  rw [a1] at a3
  rw [c1] at c3
  have o : ∀ i, i < 181 → i ≠ w → i ≠ 4 + 20 * w + (g w - 1).toNat → h i = g i → h' i = g' i := fun i q1 q2 q3 q4 => by rw [a3 i q1 q2 q3, c3 i q1 q2 q3, q4]
  have g84 : g' 84 = g 84 := a3 84 (by omega) (by omega) (by omega)
  refine ⟨fun r hr => ?_, o 84 (by omega) (by omega) (by omega) e2, fun k hk => ?_⟩
  · by_cases c : r = w
    · subst c
      refine ⟨by rw [a1, c1], fun p hp => ?_⟩
      rw [a1] at hp
      exact o _ (by omega) (by omega) (by omega) ((e1 r hr).2 p (by omega))
    · have br := b2 r hr
      have gr : g' r = g r := a3 r (by omega) c (by omega)
      refine ⟨o r (by omega) c (by omega) (e1 r hr).1, fun p hp => ?_⟩
      rw [gr] at hp
      exact o _ (by omega) (by omega) (by omega) ((e1 r hr).2 p hp)
  · rw [g84] at hk
    have bk := b4 k hk
    have gk : g' (85 + k) = g (85 + k) := a3 _ (by omega) (by omega) (by omega)
    refine ⟨o _ (by omega) (by omega) (by omega) (e3 k hk).1, fun s hs => ?_⟩
    rw [gk] at hs
    exact o _ (by omega) (by omega) (by omega) ((e3 k hk).2 s hs)
theorem EqM.trn {R w : Nat} {g h g' h' : Nat → Int} (e : EqM R g h) (b : bOK R g) (hw : w < R) (l : Ltrn w g g') (l' : Ltrn w h h') : EqM R g' h' := by
  obtain ⟨b1, b2, b3, b4⟩ := b
  obtain ⟨e1, e2, e3⟩ := e
  obtain ⟨a1, a2, a3⟩ := l
  obtain ⟨c1, c2, c3⟩ := l'
  rw [(e1 w hw).1] at c1 c2 c3
  have bw := b2 w hw
  have o : ∀ i, i < 181 → i < 4 + 20 * w ∨ 4 + 20 * w + (g w).toNat ≤ i → h i = g i → h' i = g' i := fun i q1 q2 q4 => by rw [a3 i q1 q2, c3 i q1 q2, q4]
  have g84 : g' 84 = g 84 := a3 84 (by omega) (by omega)
  refine ⟨fun r hr => ?_, o 84 (by omega) (by omega) e2, fun k hk => ?_⟩
  · by_cases c : r = w
    · subst c
      refine ⟨by rw [a1, c1], fun p hp => ?_⟩
      rw [a1] at hp
      rw [a2 p hp, c2 p hp]
      exact (e1 r hr).2 _ (by omega)
    · have br := b2 r hr
      have gr : g' r = g r := a3 r (by omega) (by omega)
      refine ⟨o r (by omega) (by omega) (e1 r hr).1, fun p hp => ?_⟩
      rw [gr] at hp
      exact o _ (by omega) (by omega) ((e1 r hr).2 p hp)
  · rw [g84] at hk
    have bk := b4 k hk
    have gk : g' (85 + k) = g (85 + k) := a3 _ (by omega) (by omega)
    refine ⟨o _ (by omega) (by omega) (e3 k hk).1, fun s hs => ?_⟩
    rw [gk] at hs
    exact o _ (by omega) (by omega) ((e3 k hk).2 s hs)
theorem EqM.crs {R w : Nat} {x : Int} {g h g' h' : Nat → Int} (e : EqM R g h) (b : bOK R g) (hw : w < (g 84).toNat) (l : Lcrs w x g g') (l' : Lcrs w x h h') : EqM R g' h' := by
  obtain ⟨b1, b2, b3, b4⟩ := b
  obtain ⟨e1, e2, e3⟩ := e
  obtain ⟨a2, a3⟩ := l
  obtain ⟨c2, c3⟩ := l'
  rw [(e3 w hw).1] at c2 c3
  have bw := b4 w hw
  have o : ∀ i, i < 181 → i < 101 + 10 * w ∨ 101 + 10 * w + (g (85 + w)).toNat ≤ i → h i = g i → h' i = g' i := fun i q1 q2 q4 => by rw [a3 i q1 q2, c3 i q1 q2, q4]
  have g84 : g' 84 = g 84 := a3 84 (by omega) (by omega)
  refine ⟨fun r hr => ?_, o 84 (by omega) (by omega) e2, fun k hk => ?_⟩
  · have br := b2 r hr
    have gr : g' r = g r := a3 r (by omega) (by omega)
    refine ⟨o r (by omega) (by omega) (e1 r hr).1, fun p hp => ?_⟩
    rw [gr] at hp
    exact o _ (by omega) (by omega) ((e1 r hr).2 p hp)
  · rw [g84] at hk
    have bk := b4 k hk
    have gk : g' (85 + k) = g (85 + k) := a3 _ (by omega) (by omega)
    refine ⟨o _ (by omega) (by omega) (e3 k hk).1, fun s hs => ?_⟩
    rw [gk] at hs
    by_cases c : k = w
    · subst c
      rw [a2 s hs, c2 s hs, (e3 k hk).2 s hs]
    · exact o _ (by omega) (by omega) ((e3 k hk).2 s hs)
theorem EqM.kep {R x y : Nat} {g h g' h' : Nat → Int} (e : EqM R g h) (b : bOK R g) (h8 : g 84 < 8) (hx : x < (g 84).toNat) (hy : y < (g 84).toNat) (hn : g (85 + x) = g (85 + y)) (l : Lkep x y g g') (l' : Lkep x y h h') : EqM R g' h' := by
  obtain ⟨b1, b2, b3, b4⟩ := b
  obtain ⟨e1, e2, e3⟩ := e
  obtain ⟨a1, a2, a3, a4⟩ := l
  obtain ⟨c1, c2, c3, c4⟩ := l'
  rw [(e3 x hx).1] at c2
  rw [e2, (e3 x hx).1] at c3
  rw [e2] at c1 c2 c4
  have bx := b4 x hx
  obtain ⟨N, hN⟩ : ∃ N : Nat, g 84 = N := ⟨(g 84).toNat, by omega⟩
  rw [hN, tn] at a2 a3 a4 c2 c3 c4 hx hy b4 e3
  rw [hN] at a1 c1 h8
  have o : ∀ i, i < 181 → i ≠ 84 → i ≠ 85 + N → i ≠ 93 + N → i < 101 + 10 * N ∨ 111 + 10 * N ≤ i → h i = g i → h' i = g' i := fun i q1 q2 q3 q4 q5 q6 => by rw [a4 i q1 q2 q3 q4 q5, c4 i q1 q2 q3 q4 q5, q6]
  refine ⟨fun r hr => ?_, by rw [a1, c1], fun k hk => ?_⟩
  · have br := b2 r hr
    have gr : g' r = g r := a4 r (by omega) (by omega) (by omega) (by omega) (by omega)
    refine ⟨o r (by omega) (by omega) (by omega) (by omega) (by omega) (e1 r hr).1, fun p hp => ?_⟩
    rw [gr] at hp
    exact o _ (by omega) (by omega) (by omega) (by omega) (by omega) ((e1 r hr).2 p hp)
  · rw [a1] at hk
    by_cases c : k = N
    · subst c
      refine ⟨by rw [a2, c2], fun s hs => ?_⟩
      rw [a2] at hs
      rw [a3 s hs, c3 s hs]
      exact cmp_congr (fun s hs => (e3 x hx).2 s hs) (fun s hs => (e3 y hy).2 s (by rw [← hn]; exact hs)) hs
    · have bk := b4 k (by omega)
      have gk : g' (85 + k) = g (85 + k) := a4 _ (by omega) (by omega) (by omega) (by omega) (by omega)
      refine ⟨o _ (by omega) (by omega) (by omega) (by omega) (by omega) (e3 k (by omega)).1, fun s hs => ?_⟩
      rw [gk] at hs
      exact o _ (by omega) (by omega) (by omega) (by omega) (by omega) ((e3 k (by omega)).2 s hs)
theorem bOK.of {V : Mem} {a R B : Nat} {g kd : Nat → Int} (h1 : CpRw V a g kd R) (h2 : CpB0 V a g B) : bOK R g := by
  have h84 := h2.2.1
  have h8 := h2.2.2.1
  refine ⟨h1.2.1, fun r hr => ?_, by omega, fun k hk => ?_⟩
  · obtain ⟨m, a1, a2, a3, a4, -⟩ := h1.2.2 r hr
    omega
  · rw [h84, tn] at hk
    obtain ⟨n, c1, c2, c3, c4, c5, c6⟩ := h2.2.2.2 k hk
    refine ⟨by omega, by omega, ?_⟩
    rw [c2, tn]
    exact c6
