/-! ===== which window it was: agrees, fits, first, ask, both sides ===== -/
/-- does what is seen (block g, the first S) agree with length l of row r -/
def agn (g : Nat → Int) (r l : Int) : Nat → Nat
  | 0 => 1
  | i + 1 => if g (182 + 3 * i) = r ∧ ¬ (g (184 + 3 * i) = 1 ↔ g (183 + 3 * i) ≤ l) then 0 else agn g r l i
theorem agn_le {g : Nat → Int} {r l : Int} : ∀ S, agn g r l S ≤ 1
  | 0 => Nat.le_refl _
  | i + 1 => by
    have := agn_le (g := g) (r := r) (l := l) i
    unfold agn
    split <;> omega
theorem agn_1 {g : Nat → Int} {r l : Int} : ∀ S, (∀ i, i < S → ¬ (g (182 + 3 * i) = r ∧ ¬ (g (184 + 3 * i) = 1 ↔ g (183 + 3 * i) ≤ l))) → agn g r l S = 1
  | 0, _ => rfl
  | i + 1, h => by
    unfold agn
    rw [if_neg (h i (by omega))]
    exact agn_1 i (fun j hj => h j (by omega))
theorem agn_0 {g : Nat → Int} {r l : Int} : ∀ S i, i < S → (g (182 + 3 * i) = r ∧ ¬ (g (184 + 3 * i) = 1 ↔ g (183 + 3 * i) ≤ l)) → agn g r l S = 0
  | 0, i, h, _ => absurd h (Nat.not_lt_zero i)
  | S + 1, i, h, h2 => by
    unfold agn
    by_cases c : i = S
    · subst c; rw [if_pos h2]
    · rw [agn_0 S i (by omega) h2]; split <;> rfl
/-- what both have seen -/
def Seen (V : Mem) (a : Nat) (g : Nat → Int) (S : Nat) : Prop := V a 7 = S ∧ g 181 = S ∧ S ≤ 8 ∧ ∀ i, i < S → V (a + 3) i = g (182 + 3 * i) ∧ V (a + 4) i = g (183 + 3 * i) ∧ V (a + 5) i = g (184 + 3 * i) ∧ (g (184 + 3 * i) = 0 ∨ g (184 + 3 * i) = 1)
/-- windows from f, of which k are counted by A -/
def cnI (A : Int → Nat) (L : Nat → Nat → Int) (f : Nat) : Nat → Nat
  | 0 => 0
  | k + 1 => cnI A L f k + A (L f (f + 1 + k))
def cnO (A : Int → Nat) (L : Nat → Nat → Int) (m : Nat) : Nat → Nat
  | 0 => 0
  | f + 1 => cnO A L m f + cnI A L f (m - f)
def tal (A : Int → Nat) (y : Nat) (l : Int) : Nat := if l = (y : Int) then A l else 0
theorem cnI_le {A : Int → Nat} {L : Nat → Nat → Int} {f : Nat} (hA : ∀ l, A l ≤ 1) : ∀ k, cnI A L f k ≤ k
  | 0 => Nat.le_refl 0
  | k + 1 => by
    have := cnI_le (L := L) (f := f) hA k
    have := hA (L f (f + 1 + k))
    unfold cnI
    omega
theorem cnO_le {A : Int → Nat} {L : Nat → Nat → Int} {m : Nat} (hA : ∀ l, A l ≤ 1) (hm : m ≤ 20) : ∀ f, cnO A L m f ≤ 20 * f
  | 0 => Nat.le_refl 0
  | f + 1 => by
    have := cnO_le (L := L) hA hm f
    have := cnI_le (L := L) (f := f) hA (m - f)
    unfold cnO
    omega
theorem tal_le {A : Int → Nat} (hA : ∀ l, A l ≤ 1) (y : Nat) : ∀ l, tal A y l ≤ 1 := fun l => by
  have := hA l
  unfold tal
  split <;> omega
theorem cnI_congr {A : Int → Nat} {L L2 : Nat → Nat → Int} {f m : Nat} (h : ∀ a b, a ≤ b → b ≤ m → L a b = L2 a b) : ∀ k, f + k ≤ m → cnI A L f k = cnI A L2 f k
  | 0, _ => rfl
  | k + 1, hk => by
    unfold cnI
    rw [cnI_congr h k (by omega), h f (f + 1 + k) (by omega) (by omega)]
theorem cnO_congr {A : Int → Nat} {L L2 : Nat → Nat → Int} {m : Nat} (h : ∀ a b, a ≤ b → b ≤ m → L a b = L2 a b) : ∀ f, f ≤ m → cnO A L m f = cnO A L2 m f
  | 0, _ => rfl
  | f + 1, hf => by
    unfold cnO
    rw [cnO_congr h f (by omega), cnI_congr h (m - f) (by omega)]
/-- the first window, from (f, t) on -/
def fsI (A : Int → Nat) (L : Nat → Nat → Int) (f : Nat) (e : Int) : Nat → Nat → Int
  | _, 0 => e
  | t, k + 1 => if A (L f t) = 0 then fsI A L f e (t + 1) k else ((32 * f + t : Nat) : Int)
def fsO (A : Int → Nat) (L : Nat → Nat → Int) (m : Nat) : Nat → Nat → Int
  | _, 0 => -1
  | f, k + 1 => fsI A L f (fsO A L m (f + 1) k) (f + 1) (m - f)
theorem fsI_congr {A : Int → Nat} {L L2 : Nat → Nat → Int} {f m : Nat} {e : Int} (h : ∀ a b, a ≤ b → b ≤ m → L a b = L2 a b) : ∀ k t, f ≤ t → t + k ≤ m + 1 → fsI A L f e t k = fsI A L2 f e t k
  | 0, _, _, _ => rfl
  | k + 1, t, h1, h2 => by
    unfold fsI
    rw [h f t h1 (by omega), fsI_congr h k (t + 1) (by omega) (by omega)]
theorem fsO_congr {A : Int → Nat} {L L2 : Nat → Nat → Int} {m : Nat} (h : ∀ a b, a ≤ b → b ≤ m → L a b = L2 a b) : ∀ k f, f + k ≤ m → fsO A L m f k = fsO A L2 m f k
  | 0, _, _ => rfl
  | k + 1, f, hf => by
    unfold fsO
    rw [fsO_congr h k (f + 1) (by omega), fsI_congr h (m - f) (f + 1) (by omega) (by omega)]
/-- where to ask -/
def lsT (T : Nat → Nat) : Nat → Nat
  | 0 => 0
  | k + 1 => lsT T k + T k
theorem lsT_le {T : Nat → Nat} (h : ∀ k, T k ≤ 400) : ∀ k, lsT T k ≤ 400 * k
  | 0 => Nat.le_refl 0
  | k + 1 => by
    have := lsT_le h k
    have := h k
    unfold lsT
    omega
theorem lsT_b {T : Nat → Nat} (h : ∀ k, T k ≤ 400) {k : Nat} (hk : k ≤ 21) : lsT T k ≤ 8400 := by
  have := lsT_le h k
  generalize lsT T k = z at *
  omega
theorem w32_ad {a b c : Nat} (h : c ≤ 8400) (e : c = a + b := by rfl) : w32 ((a : Int) + (b : Int)) = (c : Int) := by rw [w32_id (by omega) (by omega)]; omega
theorem w32_sb {a b : Nat} (ha : a ≤ 400) (hb : b ≤ 8400) : w32 ((a : Int) - (b : Int)) = (a : Int) - (b : Int) := w32_id (by omega) (by omega)
theorem mx_l {a b : Int} (h : a ≤ b) : b = max a b := by omega
theorem mx_r {a b : Int} (h : ¬ a ≤ b) : a = max a b := by omega
def qkT (T : Nat → Nat) (all : Nat) : Nat → Nat → Int → Int → Int
  | _, 0, _, ans => ans
  | l, k + 1, least, ans => if least ≤ max (lsT T l : Int) ((all : Int) - lsT T l) then qkT T all (l + 1) k least ans else qkT T all (l + 1) k (max (lsT T l : Int) ((all : Int) - lsT T l)) l
section CFT
variable {K : KK} {d : Nat} {V : Mem} {P : Nat → Int × Int} {n R : Nat}
theorem c_agrees {a S : Nat} {g : Nat → Int} (h0 : IsStore a) (hs : Seen V a g S) (r l : Int) : Pu K d mX7_agrees [vR a, vI r, vI l] V ((agn g r l S : Nat) : Int) := by
  obtain ⟨s1, s2, s3, s4⟩ := hs
  refine sX7_agrees a r l h0 ?_
  have wqA : ∀ i, i ≤ S → (∀ j, j < i → ¬ (g (182 + 3 * j) = r ∧ ¬ (g (184 + 3 * j) = 1 ↔ g (183 + 3 * j) ≤ l))) → Wf K d mX7_agrees 2 [some (vR a), some (vI r), some (vI l), some (vI (i : Int))] [] V (fun r' V' => ∃ z, r' = some (vI z) ∧ z = ((agn g r l S : Nat) : Int) ∧ V' = V) := by
    refine up_ind ?_ ?_
    · intro hb
      exact sX7_agrees_2 a r l _ h0 ⟨fun _ => ⟨_, rfl, by rw [agn_1 S hb]; rfl, rfl⟩, fun c => absurd (by rw [s1]; exact Int.le_refl _) c⟩
    · intro i hi ih hb
      obtain ⟨e1, e2, e3, e4⟩ := s4 i hi
      have nx : ¬ (g (182 + 3 * i) = r ∧ ¬ (g (184 + 3 * i) = 1 ↔ g (183 + 3 * i) ≤ l)) → Wf K d mX7_agrees 2 [some (vR a), some (vI r), some (vI l), some (vI (w32 ((i : Int) + 1)))] [] V (fun r' V' => ∃ z, r' = some (vI z) ∧ z = ((agn g r l S : Nat) : Int) ∧ V' = V) := by
        intro c
        rw [w32_s (by omega)]
        refine ih (fun j hj => ?_)
        by_cases q : j = i
        · rw [q]; exact c
        · exact hb j (by omega)
      have no : (g (182 + 3 * i) = r ∧ ¬ (g (184 + 3 * i) = 1 ↔ g (183 + 3 * i) ≤ l)) → (0 : Int) = ((agn g r l S : Nat) : Int) := fun c => by rw [agn_0 S i hi c]; rfl
      refine sX7_agrees_2 a r l _ h0 ⟨fun c => absurd c (by rw [s1]; omega), fun _ => ⟨⟨by omega, by omega⟩, ?_⟩⟩
      rw [tn, e1, e2, e3]
      refine ⟨fun c => nx (fun q => c q.1), fun c => ⟨⟨by omega, by omega⟩, ⟨by omega, by omega⟩, fun c2 => ⟨fun c3 => nx (fun q => q.2 (by omega)), fun c3 => ⟨_, rfl, no ⟨c, fun q => ?_⟩, rfl⟩⟩, fun c2 => ⟨fun c3 => nx (fun q => q.2 (by omega)), fun c3 => ⟨_, rfl, no ⟨c, fun q => ?_⟩, rfl⟩⟩⟩⟩
      · have := q.1 (by omega); omega
      · exact c3 (q.2 (by omega))
  exact wqA 0 (Nat.zero_le _) (fun j hj => absurd hj (Nat.not_lt_zero j))
theorem ixs {i : Nat} (h : i < 8) : w32 (182 + w32 (3 * (i : Int))) = ((182 + 3 * i : Nat) : Int) := by rw [w32_id (x := 3 * (i : Int)) (by omega) (by omega), w32_id (by omega) (by omega)]; omega
theorem ixs1 {i : Nat} (h : i < 8) : w32 (((182 + 3 * i : Nat) : Int) + 1) = ((183 + 3 * i : Nat) : Int) := by rw [w32_id (by omega) (by omega)]; omega
theorem ixs2 {i : Nat} (h : i < 8) : w32 (((182 + 3 * i : Nat) : Int) + 2) = ((184 + 3 * i : Nat) : Int) := by rw [w32_id (by omega) (by omega)]; omega
theorem m_isAsSeen {S f t : Nat} (s2 : V 381 181 = S) (s3 : S ≤ 8) (hf : f ≤ 20) (ht : t ≤ 20) (r : Int) : Pu K (d + 1) mX12_isAsSeen [vR 369, vI r, vI (f : Int), vI (t : Int)] V ((agn (V 381) r (V 384 (21 * f + t)) S : Nat) : Int) := by
  refine sX12_isAsSeen r _ _ ?_
  generalize hg : V 381 = g at *
  generalize hl : V 384 (21 * f + t) = l at *
  have wqB : ∀ i, i ≤ S → agn g r l S = 0 → Wf K (d + 1) mX12_isAsSeen 6 [some (vR 369), some (vI r), some (vI (f : Int)), some (vI (t : Int)), some (vI 0), some (vI (i : Int)), none] [] V (fun r' V' => ∃ z, r' = some (vI z) ∧ z = ((agn g r l S : Nat) : Int) ∧ V' = V) := by
    refine up_ind ?_ ?_
    · intro hb
      exact sX12_isAsSeen_6 r _ _ _ _ ⟨fun _ => ⟨Or.inl rfl, _, rfl, by rw [hb]; rfl, rfl⟩, fun c => absurd (by rw [hg, s2]; exact Int.le_refl _) c⟩
    · intro i hi ih hb
      refine sX12_isAsSeen_6 r _ _ _ _ ⟨fun c => absurd c (by rw [hg, s2]; omega), fun _ => ⟨fun _ => ?_, fun c => absurd rfl c⟩⟩
      rw [w32_s (by omega)]
      exact ih hb
  have wqA : ∀ i, i ≤ S → (∀ j, j < i → ¬ (g (182 + 3 * j) = r ∧ ¬ (g (184 + 3 * j) = 1 ↔ g (183 + 3 * j) ≤ l))) → Wf K (d + 1) mX12_isAsSeen 6 [some (vR 369), some (vI r), some (vI (f : Int)), some (vI (t : Int)), some (vI 1), some (vI (i : Int)), none] [] V (fun r' V' => ∃ z, r' = some (vI z) ∧ z = ((agn g r l S : Nat) : Int) ∧ V' = V) := by
    refine up_ind ?_ ?_
    · intro hb
      exact sX12_isAsSeen_6 r _ _ _ _ ⟨fun _ => ⟨Or.inr rfl, _, rfl, by rw [agn_1 S hb]; rfl, rfl⟩, fun c => absurd (by rw [hg, s2]; exact Int.le_refl _) c⟩
    · intro i hi ih hb
      have nx : ¬ (g (182 + 3 * i) = r ∧ ¬ (g (184 + 3 * i) = 1 ↔ g (183 + 3 * i) ≤ l)) → Wf K (d + 1) mX12_isAsSeen 6 [some (vR 369), some (vI r), some (vI (f : Int)), some (vI (t : Int)), some (vI 1), some (vI (w32 ((i : Int) + 1))), none] [] V (fun r' V' => ∃ z, r' = some (vI z) ∧ z = ((agn g r l S : Nat) : Int) ∧ V' = V) := by
        intro c
        rw [w32_s (by omega)]
        refine ih (fun j hj => ?_)
        by_cases q : j = i
        · rw [q]; exact c
        · exact hb j (by omega)
      have no : (g (182 + 3 * i) = r ∧ ¬ (g (184 + 3 * i) = 1 ↔ g (183 + 3 * i) ≤ l)) → Wf K (d + 1) mX12_isAsSeen 6 [some (vR 369), some (vI r), some (vI (f : Int)), some (vI (t : Int)), some (vI 0), some (vI (w32 ((i : Int) + 1))), none] [] V (fun r' V' => ∃ z, r' = some (vI z) ∧ z = ((agn g r l S : Nat) : Int) ∧ V' = V) := by
        intro c
        rw [w32_s (by omega)]
        exact wqB (i + 1) (by omega) (agn_0 S i hi c)
      refine sX12_isAsSeen_6 r _ _ _ _ ⟨fun c => absurd c (by rw [hg, s2]; omega), fun _ => ⟨fun c => absurd c (by decide), fun _ => ?_⟩⟩
      rw [ixs (show i < 8 by omega), ixs1 (show i < 8 by omega), ixs2 (show i < 8 by omega), ix21 hf ht, tn, tn, tn, tn, hg, hl]
      refine ⟨⟨by omega, by omega⟩, fun c => nx (fun q => c q.1), fun c => ⟨⟨by omega, by omega⟩, ⟨by omega, by omega⟩, fun c2 => ⟨⟨by omega, by omega⟩, fun c3 => nx (fun q => q.2 ⟨fun a => absurd a c3, fun a => by omega⟩), fun c3 => no ⟨c, fun q => ?_⟩⟩, fun c2 => ⟨⟨by omega, by omega⟩, fun c3 => no ⟨c, fun q => ?_⟩, fun c3 => nx (fun q => q.2 ⟨fun _ => by omega, fun _ => c3⟩)⟩⟩⟩
      · have := q.1 c3; omega
      · exact c3 (q.2 (by omega))
  exact wqA 0 (Nat.zero_le _) (fun j hj => absurd hj (Nat.not_lt_zero j))
/-- the class counts what fits -/
theorem c_tallyFits {S i m : Nat} (hI : Icore P n R V) (hs : Seen V 43 (V 381) S) (hi : i < R) (hm : V 381 i = m) (h20 : m ≤ 20) (h43 : V (49 + 2 * i) 3 = m) : Mi K (d + 6) mX11_tallyFits [vR 0, vR (49 + 2 * i), vI (i : Int)] V (fun z V' => FrX V V' ∧ z = ((cnO (fun l => agn (V 381) i l S) (lw (FR P n V i)) m m : Nat) : Int) ∧ ∀ y, y ≤ 20 → V' 248 y = ((cnO (tal (fun l => agn (V 381) i l S) y) (lw (FR P n V i)) m m : Nat) : Int)) := by
  have hrow : IsRow (49 + 2 * i) := by
    have := obj44 (k := (i : Int)) ⟨by omega, by have := hI.2.2.1; omega⟩
    rw [tn] at this
    exact this
  have hi4 : i < 4 := by have := hI.2.2.1; omega
  refine sX11_tallyFits _ _ hrow (c_loadFill (d := d) hI hi hm (fun V4 hL => ?_))
  obtain ⟨A, hAe⟩ : ∃ A : Int → Nat, A = fun l => agn (V 381) (i : Int) l S := ⟨_, rfl⟩
  have hA : ∀ l, A l ≤ 1 := fun l => by rw [hAe]; exact agn_le S
  rw [← hAe]
  have hlb : ∀ a b, a ≤ b → b ≤ m → 0 ≤ lw (FR P n V i) a b ∧ lw (FR P n V i) a b ≤ 20 := fun a b h1 h2 => by
    have := lw_r (F := FR P n V i) (lo := a) (hi := b) h1
    omega
  obtain ⟨l1, l2, l3⟩ := hL
  generalize lw (FR P n V i) = L at *
  have sM : ∀ V' : Mem, FrX V4 V' → (∀ y, ¬ y = 248 → V' y = V4 y) → Seen V' 43 (V 381) S := fun V' f1 _ => by
    obtain ⟨s1, s2, s3, s4⟩ := hs
    have f2 := l1.tr f1
    refine ⟨by rw [f2 43 (by omega)]; exact s1, s2, s3, fun j hj => ?_⟩
    rw [f2 (43 + 3) (by omega), f2 (43 + 4) (by omega), f2 (43 + 5) (by omega)]
    exact s4 j hj
  have wqA : ∀ f, f ≤ m → ∀ V' : Mem, (∀ y, y ≠ 248 → V' y = V4 y) → (∀ y, y ≤ 20 → V' 248 y = ((cnO (tal A y) L m f : Nat) : Int)) → Wf K (d + 6) mX11_tallyFits 31 [some (vR 0), some (vR (49 + 2 * i)), some (vI (i : Int)), some (vI ((cnO A L m f : Nat) : Int)), some (vI (f : Int)), none, none] [] V' (fun r V' => ∃ z, r = some (vI z) ∧ FrX V V' ∧ z = ((cnO A L m m : Nat) : Int) ∧ ∀ y, y ≤ 20 → V' 248 y = ((cnO (tal A y) L m m : Nat) : Int)) := by
    refine up_ind ?_ ?_
    · intro V' g1 g2
      refine sX11_tallyFits_31 _ _ _ _ hrow ⟨fun _ => ⟨_, rfl, l1.tr (fun c hc => g1 c (by omega)), rfl, g2⟩, fun c => absurd (by rw [g1 _ (by omega), l1 _ (by omega), h43]; exact Int.le_refl _) c⟩
    · intro f hf ih V' g1 g2
      refine sX11_tallyFits_31 _ _ _ _ hrow ⟨fun c => absurd c (by rw [g1 _ (by omega), l1 _ (by omega), h43]; omega), fun _ => ?_⟩
      rw [w32_s (i := f) (by omega)]
      have b1 := cnO_le (L := L) hA h20 f
      have wqB : ∀ k, k ≤ m - f → ∀ V' : Mem, (∀ y, y ≠ 248 → V' y = V4 y) → (∀ y, y ≤ 20 → V' 248 y = ((cnO (tal A y) L m f + cnI (tal A y) L f k : Nat) : Int)) → Wf K (d + 6) mX11_tallyFits 46 [some (vR 0), some (vR (49 + 2 * i)), some (vI (i : Int)), some (vI ((cnO A L m f + cnI A L f k : Nat) : Int)), some (vI (f : Int)), some (vI ((f + 1 + k : Nat) : Int)), none] [] V' (fun r V' => ∃ z, r = some (vI z) ∧ FrX V V' ∧ z = ((cnO A L m m : Nat) : Int) ∧ ∀ y, y ≤ 20 → V' 248 y = ((cnO (tal A y) L m m : Nat) : Int)) := by
        refine up_ind ?_ ?_
        · intro V' j1 j2
          refine sX11_tallyFits_46 _ _ _ _ _ hrow ⟨fun _ => ?_, fun c => absurd (by rw [j1 _ (by omega), l1 _ (by omega), h43]; omega) c⟩
          rw [w32_s (i := f) (by omega)]
          exact ih V' j1 j2
        · intro k hk ih2 V' j1 j2
          have b2 := cnI_le (L := L) (f := f) hA k
          have e0 : L f (f + 1 + k) = V' (158 + f) (f + 1 + k) := by rw [j1 _ (by omega)]; exact (l3 f (f + 1 + k) (by omega) (by omega)).symm
          have hb := hlb f (f + 1 + k) (by omega) (by omega)
          refine sX11_tallyFits_46 _ _ _ _ _ hrow ⟨fun c => absurd c (by rw [j1 _ (by omega), l1 _ (by omega), h43]; omega), fun _ => ?_⟩
          refine (c_lengthOf (d := d + 5) (V := V') (p := f) (q := f + 1 + k) (n := m) (by rw [j1 156 (by omega)]; exact l2) h20 (by omega) (by omega)).use ?_
          rw [← e0]
          refine ⟨fun c => by omega, fun _ => ⟨fun c => by omega, fun _ => ?_⟩⟩
          refine (c_agrees (d := d + 5) is43 (sM V' (fun c hc => j1 c (by omega)) (fun y hy => j1 y hy)) _ _).use ?_
          have eA : ((agn (V 381) (i : Int) (L f (f + 1 + k)) S : Nat)) = A (L f (f + 1 + k)) := by rw [hAe]
          rw [eA, w32_s (i := f + 1 + k) (by omega)]
          have hA1 := hA (L f (f + 1 + k))
          refine ⟨fun c => ?_, fun c => ⟨⟨by omega, by omega⟩, ⟨by omega, by omega⟩, ?_⟩⟩
          · have c' : A (L f (f + 1 + k)) = 0 := by omega
            have e1 : cnI A L f (k + 1) = cnI A L f k := by show _ + _ = _; rw [c']; rfl
            have := ih2 V' j1 (fun y hy => by
              rw [j2 y hy]
              have : cnI (tal A y) L f (k + 1) = cnI (tal A y) L f k := by
                show _ + tal A y _ = _
                unfold tal
                rw [c']
                split <;> rfl
              rw [this])
            rw [e1] at this
            exact this
          · have c' : A (L f (f + 1 + k)) = 1 := by omega
            have e1 : cnI A L f (k + 1) = cnI A L f k + 1 := by show _ + _ = _; rw [c']
            have b3 := cnO_le (L := L) (m := m) (tal_le hA (Int.toNat (L f (f + 1 + k)))) h20 f
            have b4 := cnI_le (L := L) (f := f) (tal_le hA (Int.toNat (L f (f + 1 + k)))) k
            rw [j2 (Int.toNat (L f (f + 1 + k))) (by omega), w32_s (by omega), w32_s (by omega)]
            have := ih2 (upm V' 248 (Int.toNat (L f (f + 1 + k))) ((cnO (tal A (Int.toNat (L f (f + 1 + k)))) L m f + cnI (tal A (Int.toNat (L f (f + 1 + k)))) L f k + 1 : Nat) : Int)) (fun y hy => (upm_off y hy).trans (j1 y hy)) (fun y hy => by
              by_cases q : y = Int.toNat (L f (f + 1 + k))
              · rw [q, upm_s]
                have : cnI (tal A (Int.toNat (L f (f + 1 + k)))) L f (k + 1) = cnI (tal A (Int.toNat (L f (f + 1 + k)))) L f k + 1 := by
                  show _ + tal A _ _ = _
                  unfold tal
                  rw [if_pos (by omega), c']
                rw [this]; rfl
              · rw [upm_k q, j2 y hy]
                have : cnI (tal A y) L f (k + 1) = cnI (tal A y) L f k := by
                  show _ + tal A y _ = _
                  unfold tal
                  rw [if_neg (by omega)]; rfl
                rw [this])
            rw [e1] at this
            exact this
      exact wqB 0 (Nat.zero_le _) V' g1 g2
  have wqC : ∀ y, y ≤ 21 → ∀ V' : Mem, (∀ c, c ≠ 248 → V' c = V4 c) → (∀ z, z < y → V' 248 z = 0) → Wf K (d + 6) mX11_tallyFits 7 [some (vR 0), some (vR (49 + 2 * i)), some (vI (i : Int)), some (vI (y : Int)), none, none, none] [] V' (fun r V' => ∃ z, r = some (vI z) ∧ FrX V V' ∧ z = ((cnO A L m m : Nat) : Int) ∧ ∀ y, y ≤ 20 → V' 248 y = ((cnO (tal A y) L m m : Nat) : Int)) := by
    refine up_ind ?_ ?_
    · intro V' g1 g2
      refine sX11_tallyFits_7 _ _ _ hrow ⟨fun _ => wqA 0 (Nat.zero_le _) V' g1 (fun y hy => g2 y (by omega)), fun c => absurd (by omega) c⟩
    · intro y hy ih V' g1 g2
      refine sX11_tallyFits_7 _ _ _ hrow ⟨fun c => by omega, fun _ => ⟨⟨by omega, by omega⟩, ?_⟩⟩
      rw [w32_s (i := y) (by omega), tn]
      refine ih _ (fun c hc => (upm_off c hc).trans (g1 c hc)) (fun z hz => ?_)
      by_cases q : z = y
      · rw [q, upm_s]
      · rw [upm_k q]; exact g2 z (by omega)
  exact wqC 0 (by omega) V4 (fun _ _ => rfl) (fun z hz => absurd hz (Nat.not_lt_zero z))
/-- the reference counts what fits -/
theorem m_fitting {S i m : Nat} {V1 : Mem} (hI : Icore P n R V) (hV : FrM V V1) (s2 : V 381 181 = S) (s3 : S ≤ 8) (hi : i < R) (hm : V 381 i = m) (h20 : m ≤ 20) : Mi K (d + 5) mX12_fitting [vR 369, vI (i : Int)] V1 (fun z V' => FrM V V' ∧ z = ((cnO (fun l => agn (V 381) i l S) (lw (FR P n V i)) m m : Nat) : Int) ∧ ∀ y, y ≤ 20 → V' 400 y = ((cnO (tal (fun l => agn (V 381) i l S) y) (lw (FR P n V i)) m m : Nat) : Int)) := by
  refine sX12_fitting _ (m_laysAll (d := d) hI hV hi hm (fun V4 hL => ?_))
  obtain ⟨A, hAe⟩ : ∃ A : Int → Nat, A = fun l => agn (V 381) (i : Int) l S := ⟨_, rfl⟩
  have hA : ∀ l, A l ≤ 1 := fun l => by rw [hAe]; exact agn_le S
  rw [← hAe]
  have hlb : ∀ a b, a ≤ b → b ≤ m → 0 ≤ lw (FR P n V i) a b ∧ lw (FR P n V i) a b ≤ 20 := fun a b h1 h2 => by
    have := lw_r (F := FR P n V i) (lo := a) (hi := b) h1
    omega
  obtain ⟨l1, l2, l3, l4, l5⟩ := hL
  generalize lw (FR P n V i) = L at *
  have e381 := l1.c381
  have wqA : ∀ f, f ≤ m → ∀ V' : Mem, (∀ y, y ≠ 400 → V' y = V4 y) → (∀ y, y ≤ 20 → V' 400 y = ((cnO (tal A y) L m f : Nat) : Int)) → Wf K (d + 5) mX12_fitting 30 [some (vR 369), some (vI (i : Int)), some (vI ((cnO A L m f : Nat) : Int)), some (vI (f : Int)), none] [] V' (fun r V' => ∃ z, r = some (vI z) ∧ FrM V V' ∧ z = ((cnO A L m m : Nat) : Int) ∧ ∀ y, y ≤ 20 → V' 400 y = ((cnO (tal A y) L m m : Nat) : Int)) := by
    refine up_ind ?_ ?_
    · intro V' g1 g2
      refine sX12_fitting_30 _ _ _ ⟨fun _ => ⟨_, rfl, l1.tr ⟨fun c q1 q2 => g1 c (by omega), fun j _ _ _ _ => by rw [g1 369 (by omega)]⟩, rfl, g2⟩, fun c => absurd (by rw [g1 _ (by omega), l3]; exact Int.le_refl _) c⟩
    · intro f hf ih V' g1 g2
      refine sX12_fitting_30 _ _ _ ⟨fun c => absurd c (by rw [g1 _ (by omega), l3]; omega), fun _ => ?_⟩
      rw [w32_s (i := f) (by omega)]
      have b1 := cnO_le (L := L) hA h20 f
      have wqB : ∀ k, k ≤ m - f → ∀ V' : Mem, (∀ y, y ≠ 400 → V' y = V4 y) → (∀ y, y ≤ 20 → V' 400 y = ((cnO (tal A y) L m f + cnI (tal A y) L f k : Nat) : Int)) → Wf K (d + 5) mX12_fitting 43 [some (vR 369), some (vI (i : Int)), some (vI ((cnO A L m f + cnI A L f k : Nat) : Int)), some (vI (f : Int)), some (vI ((f + 1 + k : Nat) : Int))] [] V' (fun r V' => ∃ z, r = some (vI z) ∧ FrM V V' ∧ z = ((cnO A L m m : Nat) : Int) ∧ ∀ y, y ≤ 20 → V' 400 y = ((cnO (tal A y) L m m : Nat) : Int)) := by
        refine up_ind ?_ ?_
        · intro V' j1 j2
          refine sX12_fitting_43 _ _ _ _ ⟨fun _ => ?_, fun c => absurd (by rw [j1 _ (by omega), l3]; omega) c⟩
          rw [w32_s (i := f) (by omega)]
          exact ih V' j1 j2
        · intro k hk ih2 V' j1 j2
          have b2 := cnI_le (L := L) (f := f) hA k
          have e0 : V' 384 (21 * f + (f + 1 + k)) = L f (f + 1 + k) := by rw [j1 _ (by omega)]; exact l5 f (f + 1 + k) (by omega) (by omega)
          have hb := hlb f (f + 1 + k) (by omega) (by omega)
          have e4 : V' 381 = V 381 := by rw [j1 381 (by omega), e381]
          refine sX12_fitting_43 _ _ _ _ ⟨fun c => absurd c (by rw [j1 _ (by omega), l3]; omega), fun _ => ?_⟩
          refine (m_isAsSeen (d := d + 3) (V := V') (S := S) (f := f) (t := f + 1 + k) (by rw [e4]; exact s2) s3 (by omega) (by omega) _).use ?_
          have eA : ((agn (V 381) (i : Int) (L f (f + 1 + k)) S : Nat)) = A (L f (f + 1 + k)) := by rw [hAe]
          rw [ix21 (show f ≤ 20 by omega) (show f + 1 + k ≤ 20 by omega), tn, e0, e4, eA, w32_s (i := f + 1 + k) (by omega)]
          have hA1 := hA (L f (f + 1 + k))
          refine ⟨fun c => ?_, fun c => ⟨⟨by omega, by omega⟩, ⟨by omega, by omega⟩, ⟨by omega, by omega⟩, ?_⟩⟩
          · have c' : A (L f (f + 1 + k)) = 0 := by omega
            have e1 : cnI A L f (k + 1) = cnI A L f k := by show _ + _ = _; rw [c']; rfl
            have := ih2 V' j1 (fun y hy => by
              rw [j2 y hy]
              have : cnI (tal A y) L f (k + 1) = cnI (tal A y) L f k := by
                show _ + tal A y _ = _
                unfold tal
                rw [c']
                split <;> rfl
              rw [this])
            rw [e1] at this
            exact this
          · have c' : A (L f (f + 1 + k)) = 1 := by omega
            have e1 : cnI A L f (k + 1) = cnI A L f k + 1 := by show _ + _ = _; rw [c']
            have b3 := cnO_le (L := L) (m := m) (tal_le hA (Int.toNat (L f (f + 1 + k)))) h20 f
            have b4 := cnI_le (L := L) (f := f) (tal_le hA (Int.toNat (L f (f + 1 + k)))) k
            rw [j2 (Int.toNat (L f (f + 1 + k))) (by omega), w32_s (by omega), w32_s (by omega)]
            have := ih2 (upm V' 400 (Int.toNat (L f (f + 1 + k))) ((cnO (tal A (Int.toNat (L f (f + 1 + k)))) L m f + cnI (tal A (Int.toNat (L f (f + 1 + k)))) L f k + 1 : Nat) : Int)) (fun y hy => (upm_off y hy).trans (j1 y hy)) (fun y hy => by
              by_cases q : y = Int.toNat (L f (f + 1 + k))
              · rw [q, upm_s]
                have : cnI (tal A (Int.toNat (L f (f + 1 + k)))) L f (k + 1) = cnI (tal A (Int.toNat (L f (f + 1 + k)))) L f k + 1 := by
                  show _ + tal A _ _ = _
                  unfold tal
                  rw [if_pos (by omega), c']
                rw [this]; rfl
              · rw [upm_k q, j2 y hy]
                have : cnI (tal A y) L f (k + 1) = cnI (tal A y) L f k := by
                  show _ + tal A y _ = _
                  unfold tal
                  rw [if_neg (by omega)]; rfl
                rw [this])
            rw [e1] at this
            exact this
      exact wqB 0 (Nat.zero_le _) V' g1 g2
  have wqC : ∀ y, y ≤ 21 → ∀ V' : Mem, (∀ c, c ≠ 400 → V' c = V4 c) → (∀ z, z < y → V' 400 z = 0) → Wf K (d + 5) mX12_fitting 7 [some (vR 369), some (vI (i : Int)), some (vI (y : Int)), none, none] [] V' (fun r V' => ∃ z, r = some (vI z) ∧ FrM V V' ∧ z = ((cnO A L m m : Nat) : Int) ∧ ∀ y, y ≤ 20 → V' 400 y = ((cnO (tal A y) L m m : Nat) : Int)) := by
    refine up_ind ?_ ?_
    · intro V' g1 g2
      refine sX12_fitting_7 _ _ ⟨fun _ => wqA 0 (Nat.zero_le _) V' g1 (fun y hy => g2 y (by omega)), fun c => absurd (by omega) c⟩
    · intro y hy ih V' g1 g2
      refine sX12_fitting_7 _ _ ⟨fun c => by omega, fun _ => ⟨⟨by omega, by omega⟩, ?_⟩⟩
      rw [w32_s (i := y) (by omega), tn]
      refine ih _ (fun c hc => (upm_off c hc).trans (g1 c hc)) (fun z hz => ?_)
      by_cases q : z = y
      · rw [q, upm_s]
      · rw [upm_k q]; exact g2 z (by omega)
  exact wqC 0 (by omega) V4 (fun _ _ => rfl) (fun z hz => absurd hz (Nat.not_lt_zero z))
theorem x_fits {S : Nat} (hI : Icore P n R V) (hs : Seen V 43 (V 381) S) (r : Int) : Mi K (d + 7) mX11_fits [vR 0, vI r] V (fun z V' => FrX V V' ∧ z = if rowC V r then ((cnO (fun l => agn (V 381) r l S) (lw (FR P n V r.toNat)) (V 381 r.toNat).toNat (V 381 r.toNat).toNat : Nat) : Int) else -1) := by
  obtain ⟨hx, hr0, hR, hC, hlx, hlm, hw⟩ := id hI
  refine sX11_fits r ⟨fun h => ⟨_, rfl, FrX.rf, by rw [if_neg (by omega)]⟩, fun h => ⟨fun h2 => ⟨_, rfl, FrX.rf, by rw [hx] at h2; rw [if_neg (by omega)]⟩, fun h2 => ?_⟩⟩
  obtain ⟨i, rfl⟩ : ∃ i : Nat, r = i := ⟨r.toNat, by omega⟩
  have hi : i < R := by omega
  obtain ⟨m, m1, m2, m3, m4, m5, m6, m7, m8⟩ := hI.row hi
  simp only [tn]
  refine ⟨⟨by omega, by omega⟩, (c_tallyFits (d := d) hI hs hi m2 m4 m1).use (fun z V' ⟨g1, g2, g3⟩ => ⟨_, rfl, g1, ?_⟩)⟩
  rw [if_pos ⟨by omega, by omega⟩, m2, tn]
  exact g2
theorem m_fits {S : Nat} (hI : Icore P n R V) (s2 : V 381 181 = S) (s3 : S ≤ 8) (r : Int) : Mi K (d + 6) mX12_fits [vR 369, vI r] V (fun z V' => FrM V V' ∧ z = if rowC V r then ((cnO (fun l => agn (V 381) r l S) (lw (FR P n V r.toNat)) (V 381 r.toNat).toNat (V 381 r.toNat).toNat : Nat) : Int) else -1) := by
  obtain ⟨hx, hr0, hR, hC, hlx, hlm, hw⟩ := id hI
  have f0 : FrM V (upm V 369 0 0) := FrM.th 0
  refine sX12_fits r ((m_isRow (d := d + 4) r).use ?_)
  rw [f0.c375]
  by_cases hc : 0 ≤ r ∧ r < V 375 0
  · rw [if_pos hc]
    obtain ⟨i, rfl⟩ : ∃ i : Nat, r = i := ⟨r.toNat, by omega⟩
    have hi : i < R := by omega
    obtain ⟨m, m1, m2, m3, m4, m5, m6, m7, m8⟩ := hI.row hi
    refine ⟨fun c => absurd c (by decide), fun _ => (m_fitting (d := d) hI f0 s2 s3 hi m2 m4).use (fun z V' ⟨g1, g2, g3⟩ => ⟨_, rfl, g1, ?_⟩)⟩
    rw [if_pos hc, tn, m2, tn]
    exact g2
  · rw [if_neg hc]
    exact ⟨fun _ => ⟨_, rfl, f0, by rw [if_neg hc]⟩, fun c => absurd rfl c⟩
theorem ix32 {f t : Nat} (hf : f ≤ 20) (ht : t ≤ 20) : w32 (w32 (32 * (f : Int)) + (t : Int)) = ((32 * f + t : Nat) : Int) := by rw [w32_id (x := 32 * (f : Int)) (by omega) (by omega), w32_id (by omega) (by omega)]; omega
theorem x_first {S : Nat} (hI : Icore P n R V) (hs : Seen V 43 (V 381) S) (r : Int) : Mi K (d + 6) mX11_first [vR 0, vI r] V (fun z V' => FrX V V' ∧ z = if rowC V r then fsO (fun l => agn (V 381) r l S) (lw (FR P n V r.toNat)) (V 381 r.toNat).toNat 0 (V 381 r.toNat).toNat else -1) := by
  obtain ⟨hx, hr0, hR, hC, hlx, hlm, hw⟩ := id hI
  refine sX11_first r ⟨fun h => ⟨_, rfl, FrX.rf, by rw [if_neg (by omega)]⟩, fun h => ⟨fun h2 => ⟨_, rfl, FrX.rf, by rw [hx] at h2; rw [if_neg (by omega)]⟩, fun h2 => ?_⟩⟩
  obtain ⟨i, rfl⟩ : ∃ i : Nat, r = i := ⟨r.toNat, by omega⟩
  have hi : i < R := by omega
  obtain ⟨m, m1, m2, m3, m4, m5, m6, m7, m8⟩ := hI.row hi
  have hrow : IsRow (49 + 2 * i) := by
    have := obj44 (k := (i : Int)) ⟨by omega, by omega⟩
    rw [tn] at this
    exact this
  rw [if_pos ⟨by omega, by omega⟩]
  simp only [tn, m2]
  refine ⟨⟨by omega, by omega⟩, c_loadFill (d := d) hI hi m2 (fun V4 hL => ?_)⟩
  obtain ⟨A, hAe⟩ : ∃ A : Int → Nat, A = fun l => agn (V 381) (i : Int) l S := ⟨_, rfl⟩
  rw [← hAe]
  obtain ⟨l1, l2, l3⟩ := hL
  have e3 : V4 (49 + 2 * i) 3 = (m : Int) := by rw [l1 _ (by omega)]; exact m1
  have sM : Seen V4 43 (V 381) S := by
    obtain ⟨s1, s2, s3, s4⟩ := hs
    refine ⟨by rw [l1 43 (by omega)]; exact s1, s2, s3, fun j hj => ?_⟩
    rw [l1 (43 + 3) (by omega), l1 (43 + 4) (by omega), l1 (43 + 5) (by omega)]
    exact s4 j hj
  generalize lw (FR P n V i) = L at *
  have wqA : ∀ f, f ≤ m → Wf K (d + 6) mX11_first 22 [some (vR 0), some (vI (i : Int)), some (vR (49 + 2 * i)), some (vI (f : Int)), none] [] V4 (fun r V' => ∃ z, r = some (vI z) ∧ FrX V V' ∧ z = fsO A L m f (m - f)) := by
    refine up_ind ?_ ?_
    · refine sX11_first_22 _ _ _ hrow ⟨fun _ => ⟨_, rfl, l1, by rw [Nat.sub_self]; rfl⟩, fun c => absurd (by rw [e3]; exact Int.le_refl _) c⟩
    · intro f hf ih
      refine sX11_first_22 _ _ _ hrow ⟨fun c => absurd c (by rw [e3]; omega), fun _ => ?_⟩
      rw [w32_s (i := f) (by omega), show m - f = (m - (f + 1)) + 1 by omega]
      unfold fsO
      have wqB : ∀ t, t ≤ m + 1 → f + 1 ≤ t → Wf K (d + 6) mX11_first 35 [some (vR 0), some (vI (i : Int)), some (vR (49 + 2 * i)), some (vI (f : Int)), some (vI (t : Int))] [] V4 (fun r V' => ∃ z, r = some (vI z) ∧ FrX V V' ∧ z = fsI A L f (fsO A L m (f + 1) (m - (f + 1))) t (m + 1 - t)) := by
        refine up_ind ?_ ?_
        · intro _
          refine sX11_first_35 _ _ _ _ hrow ⟨fun _ => ?_, fun c => absurd (by rw [e3]; omega) c⟩
          rw [w32_s (i := f) (by omega), Nat.sub_self]
          exact ih
        · intro t ht ih2 hft
          refine sX11_first_35 _ _ _ _ hrow ⟨fun c => absurd c (by rw [e3]; omega), fun _ => ?_⟩
          refine (c_lengthOf (d := d + 5) (V := V4) (p := f) (q := t) (n := m) l2 m4 (by omega) (by omega)).use ?_
          rw [l3 f t (by omega) (by omega)]
          refine (c_agrees (d := d + 5) is43 sM _ _).use ?_
          have eA : ((agn (V 381) (i : Int) (L f t) S : Nat)) = A (L f t) := by rw [hAe]
          rw [eA, w32_s (i := t) (by omega), ix32 (show f ≤ 20 by omega) (show t ≤ 20 by omega), show m + 1 - t = (m + 1 - (t + 1)) + 1 by omega]
          unfold fsI
          refine ⟨fun c => ?_, fun c => ⟨_, rfl, l1, by rw [if_neg (by omega)]⟩⟩
          rw [if_pos (by omega)]
          exact ih2 (by omega)
      have := wqB (f + 1) (by omega) (Nat.le_refl _)
      rw [show m + 1 - (f + 1) = m - f by omega] at this
      exact this
  exact wqA 0 (Nat.zero_le _)
theorem m_first {S : Nat} (hI : Icore P n R V) (s2 : V 381 181 = S) (s3 : S ≤ 8) (r : Int) : Mi K (d + 5) mX12_first [vR 369, vI r] V (fun z V' => FrM V V' ∧ z = if rowC V r then fsO (fun l => agn (V 381) r l S) (lw (FR P n V r.toNat)) (V 381 r.toNat).toNat 0 (V 381 r.toNat).toNat else -1) := by
  obtain ⟨hx, hr0, hR, hC, hlx, hlm, hw⟩ := id hI
  have f0 : FrM V (upm V 369 0 0) := FrM.th 0
  refine sX12_first r ((m_isRow (d := d + 3) r).use ?_)
  rw [f0.c375]
  by_cases hc : 0 ≤ r ∧ r < V 375 0
  · rw [if_pos hc, if_pos hc]
    obtain ⟨i, rfl⟩ : ∃ i : Nat, r = i := ⟨r.toNat, by omega⟩
    have hi : i < R := by omega
    obtain ⟨m, m1, m2, m3, m4, m5, m6, m7, m8⟩ := hI.row hi
    simp only [tn, m2]
    refine ⟨fun _ => m_laysAll (d := d) hI f0 hi m2 (fun V4 hL => ?_), fun c => absurd c (by decide)⟩
    obtain ⟨A, hAe⟩ : ∃ A : Int → Nat, A = fun l => agn (V 381) (i : Int) l S := ⟨_, rfl⟩
    rw [← hAe]
    obtain ⟨l1, l2, l3, l4, l5⟩ := hL
    have e4 := l1.c381
    generalize lw (FR P n V i) = L at *
    have wqA : ∀ f, f ≤ m → Wf K (d + 5) mX12_first 22 [some (vR 369), some (vI (i : Int)), some (vI (f : Int)), none] [] V4 (fun r V' => ∃ z, r = some (vI z) ∧ FrM V V' ∧ z = fsO A L m f (m - f)) := by
      refine up_ind ?_ ?_
      · refine sX12_first_22 _ _ ⟨fun _ => ⟨_, rfl, l1, by rw [Nat.sub_self]; rfl⟩, fun c => absurd (by rw [l3]; exact Int.le_refl _) c⟩
      · intro f hf ih
        refine sX12_first_22 _ _ ⟨fun c => absurd c (by rw [l3]; omega), fun _ => ?_⟩
        rw [w32_s (i := f) (by omega), show m - f = (m - (f + 1)) + 1 by omega]
        unfold fsO
        have wqB : ∀ t, t ≤ m + 1 → f + 1 ≤ t → Wf K (d + 5) mX12_first 34 [some (vR 369), some (vI (i : Int)), some (vI (f : Int)), some (vI (t : Int))] [] V4 (fun r V' => ∃ z, r = some (vI z) ∧ FrM V V' ∧ z = fsI A L f (fsO A L m (f + 1) (m - (f + 1))) t (m + 1 - t)) := by
          refine up_ind ?_ ?_
          · intro _
            refine sX12_first_34 _ _ _ ⟨fun _ => ?_, fun c => absurd (by rw [l3]; omega) c⟩
            rw [w32_s (i := f) (by omega), Nat.sub_self]
            exact ih
          · intro t ht ih2 hft
            refine sX12_first_34 _ _ _ ⟨fun c => absurd c (by rw [l3]; omega), fun _ => ?_⟩
            refine (m_isAsSeen (d := d + 3) (V := V4) (S := S) (f := f) (t := t) (by rw [e4]; exact s2) s3 (by omega) (by omega) _).use ?_
            have eA : ((agn (V 381) (i : Int) (L f t) S : Nat)) = A (L f t) := by rw [hAe]
            rw [l5 f t (by omega) (by omega), e4, eA, w32_s (i := t) (by omega), ix32 (show f ≤ 20 by omega) (show t ≤ 20 by omega), show m + 1 - t = (m + 1 - (t + 1)) + 1 by omega]
            unfold fsI
            refine ⟨fun c => ?_, fun c => ⟨_, rfl, l1, by rw [if_neg (by omega)]⟩⟩
            rw [if_pos (by omega)]
            exact ih2 (by omega)
        have := wqB (f + 1) (by omega) (Nat.le_refl _)
        rw [show m + 1 - (f + 1) = m - f by omega] at this
        exact this
    exact wqA 0 (Nat.zero_le _)
  · rw [if_neg hc, if_neg hc]
    exact ⟨fun c => absurd rfl c, fun _ => ⟨_, rfl, f0, rfl⟩⟩
theorem x_ask {S : Nat} (hI : Icore P n R V) (hs : Seen V 43 (V 381) S) (r : Int) : Mi K (d + 7) mX11_ask [vR 0, vI r] V (fun z V' => FrX V V' ∧ z = if rowC V r then qkT (fun y => cnO (tal (fun l => agn (V 381) r l S) y) (lw (FR P n V r.toNat)) (V 381 r.toNat).toNat (V 381 r.toNat).toNat) (cnO (fun l => agn (V 381) r l S) (lw (FR P n V r.toNat)) (V 381 r.toNat).toNat (V 381 r.toNat).toNat) 1 20 ((cnO (fun l => agn (V 381) r l S) (lw (FR P n V r.toNat)) (V 381 r.toNat).toNat (V 381 r.toNat).toNat : Nat) : Int) (-1) else -1) := by
  obtain ⟨hx, hr0, hR, hC, hlx, hlm, hw⟩ := id hI
  refine sX11_ask r ⟨fun h => ⟨_, rfl, FrX.rf, by rw [if_neg (by omega)]⟩, fun h => ⟨fun h2 => ⟨_, rfl, FrX.rf, by rw [hx] at h2; rw [if_neg (by omega)]⟩, fun h2 => ?_⟩⟩
  obtain ⟨i, rfl⟩ : ∃ i : Nat, r = i := ⟨r.toNat, by omega⟩
  have hi : i < R := by omega
  obtain ⟨m, m1, m2, m3, m4, m5, m6, m7, m8⟩ := hI.row hi
  rw [if_pos ⟨by omega, by omega⟩]
  simp only [tn, m2]
  refine ⟨⟨by omega, by omega⟩, (c_tallyFits (d := d) hI hs hi m2 m4 m1).use (fun z V' ⟨g1, g2, g3⟩ => ?_)⟩
  obtain ⟨A, hAe⟩ : ∃ A : Int → Nat, A = fun l => agn (V 381) (i : Int) l S := ⟨_, rfl⟩
  have hA : ∀ l, A l ≤ 1 := fun l => by rw [hAe]; exact agn_le S
  rw [← hAe] at g2 g3 ⊢
  generalize lw (FR P n V i) = L at *
  have hT : ∀ y, cnO (tal A y) L m m ≤ 400 := fun y => by have := cnO_le (L := L) (tal_le hA y) m4 m; omega
  have hall : cnO A L m m ≤ 400 := by have := cnO_le (L := L) hA m4 m; omega
  obtain ⟨T, hTe⟩ : ∃ T : Nat → Nat, T = fun y => cnO (tal A y) L m m := ⟨_, rfl⟩
  have hT2 : ∀ y, T y ≤ 400 := fun y => by rw [hTe]; exact hT y
  have g4 : ∀ y, y ≤ 20 → V' 248 y = (T y : Int) := fun y hy => by rw [hTe]; exact g3 y hy
  rw [← hTe]
  generalize cnO A L m m = all at *
  subst g2
  have wqA : ∀ l, l ≤ 21 → 1 ≤ l → ∀ least ans : Int, Wf K (d + 7) mX11_ask 39 [some (vR 0), none, none, some (vI (all : Int)), some (vI least), some (vI ans), some (vI ((lsT T l : Nat) : Int)), some (vI (l : Int)), none] [] V' (fun r V' => ∃ z, r = some (vI z) ∧ FrX V V' ∧ z = qkT T all l (21 - l) least ans) := by
    refine up_ind ?_ ?_
    · intro _ least ans
      refine sX11_ask_39 _ _ _ _ _ ⟨fun _ => ⟨_, rfl, g1, rfl⟩, fun c => absurd (by omega) c⟩
    · intro l hl ih h1 least ans
      have e1 : w32 ((all : Int) - (lsT T l : Nat)) = (all : Int) - (lsT T l : Nat) := w32_sb hall (lsT_b hT2 (by omega))
      have e2 : w32 (((lsT T l : Nat) : Int) + (T l : Int)) = ((lsT T (l + 1) : Nat) : Int) := w32_ad (lsT_b hT2 (by omega))
      refine sX11_ask_39 _ _ _ _ _ ⟨fun c => by omega, fun _ => ?_⟩
      rw [e1, tn, g4 l (by omega), e2, w32_s (i := l) (by omega), show 21 - l = (21 - (l + 1)) + 1 by omega]
      unfold qkT
      refine ⟨fun c => ⟨⟨by omega, by omega⟩, ?_⟩, fun c => ⟨⟨by omega, by omega⟩, ?_⟩⟩
      · rw [if_pos c]; exact ih (by omega) _ _
      · rw [if_neg c]; exact ih (by omega) _ _
  have := wqA 1 (by omega) (Nat.le_refl _) (all : Int) (-1)
  have e0 : lsT T 1 = T 0 := Nat.zero_add (T 0)
  rw [e0] at this
  rw [g4 0 (by omega)]
  exact this
theorem m_ask {S : Nat} (hI : Icore P n R V) (s2 : V 381 181 = S) (s3 : S ≤ 8) (r : Int) : Mi K (d + 6) mX12_ask [vR 369, vI r] V (fun z V' => FrM V V' ∧ z = if rowC V r then qkT (fun y => cnO (tal (fun l => agn (V 381) r l S) y) (lw (FR P n V r.toNat)) (V 381 r.toNat).toNat (V 381 r.toNat).toNat) (cnO (fun l => agn (V 381) r l S) (lw (FR P n V r.toNat)) (V 381 r.toNat).toNat (V 381 r.toNat).toNat) 1 20 ((cnO (fun l => agn (V 381) r l S) (lw (FR P n V r.toNat)) (V 381 r.toNat).toNat (V 381 r.toNat).toNat : Nat) : Int) (-1) else -1) := by
  obtain ⟨hx, hr0, hR, hC, hlx, hlm, hw⟩ := id hI
  have f0 : FrM V (upm V 369 0 0) := FrM.th 0
  refine sX12_ask r ((m_isRow (d := d + 4) r).use ?_)
  rw [f0.c375]
  by_cases hc : 0 ≤ r ∧ r < V 375 0
  · rw [if_pos hc, if_pos hc]
    obtain ⟨i, rfl⟩ : ∃ i : Nat, r = i := ⟨r.toNat, by omega⟩
    have hi : i < R := by omega
    obtain ⟨m, m1, m2, m3, m4, m5, m6, m7, m8⟩ := hI.row hi
    simp only [tn, m2]
    refine ⟨fun c => absurd c (by decide), fun _ => (m_fitting (d := d) hI f0 s2 s3 hi m2 m4).use (fun z V' ⟨g1, g2, g3⟩ => ?_)⟩
    obtain ⟨A, hAe⟩ : ∃ A : Int → Nat, A = fun l => agn (V 381) (i : Int) l S := ⟨_, rfl⟩
    have hA : ∀ l, A l ≤ 1 := fun l => by rw [hAe]; exact agn_le S
    rw [← hAe] at g2 g3 ⊢
    generalize lw (FR P n V i) = L at *
    have hT : ∀ y, cnO (tal A y) L m m ≤ 400 := fun y => by have := cnO_le (L := L) (tal_le hA y) m4 m; omega
    have hall : cnO A L m m ≤ 400 := by have := cnO_le (L := L) hA m4 m; omega
    obtain ⟨T, hTe⟩ : ∃ T : Nat → Nat, T = fun y => cnO (tal A y) L m m := ⟨_, rfl⟩
    have hT2 : ∀ y, T y ≤ 400 := fun y => by rw [hTe]; exact hT y
    have g4 : ∀ y, y ≤ 20 → V' 400 y = (T y : Int) := fun y hy => by rw [hTe]; exact g3 y hy
    rw [← hTe]
    generalize cnO A L m m = all at *
    subst g2
    have hc2 : 0 ≤ (i : Int) ∧ (i : Int) < V' 375 0 := by rw [g1.c375]; exact hc
    have wqA : ∀ l, l ≤ 21 → 1 ≤ l → ∀ least ans : Int, Wf K (d + 6) mX12_ask 34 [some (vR 369), some (vI (i : Int)), some (vI (all : Int)), some (vI ans), some (vI least), some (vI ((lsT T (l - 1) : Nat) : Int)), some (vI (l : Int)), none] [] V' (fun r V' => ∃ z, r = some (vI z) ∧ FrM V V' ∧ z = qkT T all l (21 - l) least ans) := by
      refine up_ind ?_ ?_
      · intro _ least ans
        refine sX12_ask_34 _ _ _ _ _ _ ⟨fun _ => ⟨_, rfl, g1, rfl⟩, fun c => absurd (by omega) c⟩
      · intro l hl ih h1 least ans
        obtain ⟨k, rfl⟩ : ∃ k, l = k + 1 := ⟨l - 1, by omega⟩
        have e2 : w32 (((lsT T k : Nat) : Int) + (T k : Int)) = ((lsT T (k + 1) : Nat) : Int) := w32_ad (lsT_b hT2 (by omega))
        have e1 : w32 ((all : Int) - (lsT T (k + 1) : Nat)) = (all : Int) - (lsT T (k + 1) : Nat) := w32_sb hall (lsT_b hT2 (by omega))
        have fin : ∀ g : Int, g = max ((lsT T (k + 1) : Nat) : Int) ((all : Int) - (lsT T (k + 1) : Nat)) → Wf K (d + 6) mX12_ask 73 [some (vR 369), some (vI (i : Int)), some (vI (all : Int)), some (vI ans), some (vI least), some (vI ((lsT T (k + 1) : Nat) : Int)), some (vI ((k + 1 : Nat) : Int)), none] [vI g] V' (fun r V' => ∃ z, r = some (vI z) ∧ FrM V V' ∧ z = qkT T all (k + 1) (21 - (k + 1)) least ans) := by
          intro g hg
          refine sX12_ask_73 _ _ _ _ _ _ _ ((m_isRow (d := d + 4) _).use ?_)
          rw [if_pos hc2, show 21 - (k + 1) = (21 - (k + 1 + 1)) + 1 by omega]
          unfold qkT
          rw [← hg]
          refine ⟨fun c => absurd c (by decide), fun _ => ⟨fun c => ?_, fun c => ?_⟩⟩
          · refine sX12_ask_95 _ _ _ _ _ _ _ (sX12_ask_96 _ _ _ _ _ _ _ ⟨fun _ => sX12_ask_111 _ _ _ _ _ _ ?_, fun c2 => absurd c c2⟩)
            rw [w32_s (i := k + 1) (by omega), if_pos c]
            exact ih (by omega) _ _
          · refine sX12_ask_96 _ _ _ _ _ _ _ ⟨fun c2 => absurd c2 c, fun _ => sX12_ask_111 _ _ _ _ _ _ ?_⟩
            rw [w32_s (i := k + 1) (by omega), if_neg c]
            exact ih (by omega) _ _
        refine sX12_ask_34 _ _ _ _ _ _ ⟨fun c => by omega, fun _ => ?_⟩
        rw [w32_p (i := k) (by omega), tn, g4 k (by omega), show k + 1 - 1 = k by omega, e2, e1]
        exact ⟨⟨by omega, by omega⟩, fun c => fin _ (mx_l c), fun c => fin _ (mx_r c)⟩
    refine sX12_ask_22 _ _ ?_
    exact wqA 1 (by omega) (Nat.le_refl _) (all : Int) (-1)
  · rw [if_neg hc, if_neg hc]
    refine ⟨fun _ => sX12_ask_22 _ _ ?_, fun c => absurd rfl c⟩
    have wqA : ∀ l : Nat, l ≤ 21 → 1 ≤ l → ∀ least less : Int, Wf K (d + 6) mX12_ask 34 [some (vR 369), some (vI r), some (vI 0), some (vI (-1)), some (vI least), some (vI less), some (vI (l : Int)), none] [] (upm V 369 0 0) (fun r V' => ∃ z, r = some (vI z) ∧ FrM V V' ∧ z = -1) := by
      refine up_ind ?_ ?_
      · intro _ least less
        refine sX12_ask_34 _ _ _ _ _ _ ⟨fun _ => ⟨_, rfl, f0, rfl⟩, fun c => absurd (by omega) c⟩
      · intro l hl ih h1 least less
        have fin : ∀ g less2 : Int, Wf K (d + 6) mX12_ask 73 [some (vR 369), some (vI r), some (vI 0), some (vI (-1)), some (vI least), some (vI less2), some (vI (l : Int)), none] [vI g] (upm V 369 0 0) (fun r V' => ∃ z, r = some (vI z) ∧ FrM V V' ∧ z = -1) := by
          intro g less2
          refine sX12_ask_73 _ _ _ _ _ _ _ ((m_isRow (d := d + 4) _).use ?_)
          rw [f0.c375, if_neg hc]
          refine ⟨fun _ => sX12_ask_95 _ _ _ _ _ _ _ (sX12_ask_96 _ _ _ _ _ _ _ ⟨fun _ => sX12_ask_111 _ _ _ _ _ _ ?_, fun _ => sX12_ask_111 _ _ _ _ _ _ ?_⟩), fun c => absurd rfl c⟩
          · rw [w32_s (i := l) (by omega)]; exact ih (by omega) _ _
          · rw [w32_s (i := l) (by omega)]; exact ih (by omega) _ _
        refine sX12_ask_34 _ _ _ _ _ _ ⟨fun c => by omega, fun _ => ?_⟩
        have e : w32 ((l : Int) - 1) = ((l - 1 : Nat) : Int) := by rw [w32_id (by omega) (by omega)]; omega
        refine ⟨by rw [e]; exact ⟨by omega, by omega⟩, fun c => fin _ _, fun c => fin _ _⟩
    exact wqA 1 (by omega) (Nat.le_refl _) 0 0
end CFT
