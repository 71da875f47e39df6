/-! ===== sets of places as bits ===== -/
def bt (x : Int) (i : Nat) : Bool := (BitVec.ofInt 32 x).getLsbD i
theorem bt_i (v : Int32) (i : Nat) : bt v.toInt i = v.toBitVec.getLsbD i := by
  unfold bt
  rw [← Int32.toInt_toBitVec, BitVec.ofInt_toInt]
theorem bt_or (x z : Int) (i : Nat) : bt (b_ior x z) i = (bt x i || bt z i) := by
  unfold b_ior
  rw [bt_i, Int32.toBitVec_or, BitVec.getLsbD_or, Int32.toBitVec_ofInt, Int32.toBitVec_ofInt]; rfl
theorem bt_and (x z : Int) (i : Nat) : bt (b_iand x z) i = (bt x i && bt z i) := by
  unfold b_iand
  rw [bt_i, Int32.toBitVec_and, BitVec.getLsbD_and, Int32.toBitVec_ofInt, Int32.toBitVec_ofInt]; rfl
theorem bt_xor (x z : Int) (i : Nat) : bt (b_ixor x z) i = (bt x i ^^ bt z i) := by
  unfold b_ixor
  rw [bt_i, Int32.toBitVec_xor, BitVec.getLsbD_xor, Int32.toBitVec_ofInt, Int32.toBitVec_ofInt]; rfl
theorem bt_shl1 : ∀ p : Fin 32, ∀ i : Fin 32, bt (b_ishl 1 (p.val : Int)) i.val = decide (i.val = p.val) := by decide +kernel
theorem bt_m1 : ∀ i : Fin 32, bt (-1) i.val = true := by decide +kernel
theorem bt_0 : ∀ i : Fin 32, bt 0 i.val = false := by decide +kernel
theorem bt_1 : ∀ i : Fin 32, bt 1 i.val = decide (i.val = 0) := by decide +kernel
theorem bt_sh : ∀ p : Fin 32, ((Int32.ofInt (p.val : Int) &&& 31).toBitVec.smod 32).toNat = p.val := by decide +kernel
theorem bt_shr (x : Int) (p : Nat) (hp : p < 32) : bt (b_ishr x (p : Int)) 0 = bt x p := by
  unfold b_ishr
  rw [bt_i, Int32.toBitVec_shiftRight]
  unfold BitVec.sshiftRight'
  rw [bt_sh ⟨p, hp⟩, BitVec.getLsbD_sshiftRight, Int32.toBitVec_ofInt]
  rw [if_pos (by simpa using hp)]
  rfl
theorem bt_un {x y : Int} (hx : r32 x) (hy : r32 y) (h : ∀ i, i < 32 → bt x i = bt y i) : x = y := by
  have e : BitVec.ofInt 32 x = BitVec.ofInt 32 y := BitVec.eq_of_getLsbD_eq h
  have e2 := congrArg BitVec.toInt e
  rw [BitVec.toInt_ofInt, BitVec.toInt_ofInt] at e2
  unfold r32 at hx hy
  rw [Int.bmod_def, Int.bmod_def] at e2
  omega
def bset (S : Nat → Prop) (x : Int) : Prop := r32 x ∧ ∀ i, i < 32 → (bt x i = true ↔ S i)
theorem bset_un {S T : Nat → Prop} {x y : Int} (hx : bset S x) (hy : bset T y) (h : ∀ i, i < 32 → (S i ↔ T i)) : x = y := by
  refine bt_un hx.1 hy.1 (fun i hi => ?_)
  have := (hx.2 i hi).trans ((h i hi).trans (hy.2 i hi).symm)
  cases h1 : bt x i <;> cases h2 : bt y i <;> simp_all
theorem bset_congr {S T : Nat → Prop} {x : Int} (hx : bset S x) (h : ∀ i, i < 32 → (S i ↔ T i)) : bset T x := ⟨hx.1, fun i hi => (hx.2 i hi).trans (h i hi)⟩
theorem bset_0 : bset (fun _ => False) 0 := ⟨⟨by decide, by decide⟩, fun i hi => by rw [bt_0 ⟨i, hi⟩]; simp⟩
theorem bset_m1 : bset (fun _ => True) (-1) := ⟨⟨by decide, by decide⟩, fun i hi => by rw [bt_m1 ⟨i, hi⟩]; simp⟩
theorem bset_or {S T : Nat → Prop} {x y : Int} (hx : bset S x) (hy : bset T y) : bset (fun i => S i ∨ T i) (b_ior x y) := ⟨r32_of _, fun i hi => by rw [bt_or, Bool.or_eq_true, hx.2 i hi, hy.2 i hi]⟩
theorem bset_and {S T : Nat → Prop} {x y : Int} (hx : bset S x) (hy : bset T y) : bset (fun i => S i ∧ T i) (b_iand x y) := ⟨r32_of _, fun i hi => by rw [bt_and, Bool.and_eq_true, hx.2 i hi, hy.2 i hi]⟩
theorem bset_not {S : Nat → Prop} {x : Int} (hx : bset S x) : bset (fun i => ¬ S i) (b_ixor x (-1)) := ⟨r32_of _, fun i hi => by show _ ↔ ¬ S i; rw [bt_xor, bt_m1 ⟨i, hi⟩, ← hx.2 i hi]; simp⟩
theorem bset_shl {p : Nat} (hp : p < 32) : bset (fun i => i = p) (b_ishl 1 (p : Int)) := ⟨r32_of _, fun i hi => by rw [bt_shl1 ⟨p, hp⟩ ⟨i, hi⟩]; simp⟩
theorem bset_bit {S : Nat → Prop} {x : Int} {p : Nat} (hx : bset S x) (hp : p < 32) : b_iand (b_ishr x (p : Int)) 1 = 1 ↔ S p := by
  rw [← hx.2 p hp, ← bt_shr x p hp]
  generalize b_ishr x (p : Int) = y
  constructor
  · intro h
    have := bt_and y 1 0
    rw [h, bt_1 ⟨0, by decide⟩] at this
    simpa using this.symm
  · intro h
    refine bt_un (r32_of _) ⟨by decide, by decide⟩ (fun i hi => ?_)
    rw [bt_and, bt_1 ⟨i, hi⟩]
    by_cases c : i = 0
    · subst c; rw [h]; rfl
    · simp [c]
noncomputable def bts (S : Nat → Prop) : Int := Classical.epsilon (fun x => bset S x)
theorem bts_eq {S : Nat → Prop} {x : Int} (h : bset S x) : x = bts S := bset_un h (Classical.epsilon_spec (p := fun x => bset S x) ⟨x, h⟩) (fun _ _ => Iff.rfl)
/-! ===== may and must: both sides ===== -/
abbrev onL (F : Nat → Nat → Prop) (lo hi p : Nat) : Prop := enf F lo hi p + sta F lo hi p - 1 = lw F lo hi
abbrev mayS (F : Nat → Nat → Prop) (lo hi i : Nat) : Prop := lo ≤ i ∧ i < hi ∧ onL F lo hi i
abbrev mustS (F : Nat → Nat → Prop) (lo hi i : Nat) : Prop := mayS F lo hi i ∧ ∀ j, mayS F lo hi j → enf F lo hi j = enf F lo hi i → j = i
section CMM
variable {K : KK} {d : Nat} {V : Mem} {P : Nat → Int × Int} {n R : Nat}
theorem on_w {F : Nat → Nat → Prop} {lo hi p : Nat} {E B : Nat → Int} (hE : isEnd F lo hi E) (hB : isSta F lo hi B) (h20 : hi ≤ 20) (h1 : lo ≤ p) (h2 : p < hi) : w32 (w32 (E p + B p) - 1) = enf F lo hi p + sta F lo hi p - 1 := by
  have e1 := hE.ge h1 h2
  have e2 := hE.le p h1 h2
  have e3 := hB.ge h1 h2
  have e4 := hB.le _ p rfl h1 h2
  rw [← enf_eq hE h1 h2, ← sta_eq hB h1 h2, w32_id (x := E p + B p) (by omega) (by omega), w32_id (by omega) (by omega)]
theorem c_mayBits {a lo hi : Nat} {F : Nat → Nat → Prop} (h0 : IsChains a) (hs : V a 7 = lo) (he : V a 8 = hi) (hlh : lo ≤ hi) (h20 : hi ≤ 20) (hE : isEnd F lo hi (V (a + 3))) (hB : isSta F lo hi (V (a + 2))) (hL : V a 5 = lw F lo hi) : Mi K (d + 1) mX1_mayBits [vR a] V (fun z V' => bset (mayS F lo hi) z ∧ V' = V) := by
  refine sX1_mayBits a h0 ?_
  rw [hs]
  have wqA : ∀ p, p ≤ hi → lo ≤ p → ∀ x, bset (fun i => i < p ∧ mayS F lo hi i) x → Wf K (d + 1) mX1_mayBits 7 [some (vR a), some (vI x), some (vI (p : Int))] [] V (fun r V' => ∃ z, r = some (vI z) ∧ (bset (mayS F lo hi) z ∧ V' = V)) := by
    refine up_ind ?_ ?_
    · intro _ x hx
      exact sX1_mayBits_7 a _ _ h0 ⟨fun _ => ⟨_, rfl, bset_congr hx (fun i _ => ⟨fun q => q.2, fun q => ⟨q.2.1, q⟩⟩), rfl⟩, fun c => absurd (by rw [he]; exact Int.le_refl _) c⟩
    · intro p hp ih hl x hx
      refine sX1_mayBits_7 a _ _ h0 ⟨fun c => absurd c (by rw [he]; omega), fun _ => ⟨⟨by omega, by omega⟩, ⟨by omega, by omega⟩, ?_⟩⟩
      rw [tn, on_w hE hB h20 hl hp, hL, w32_s (by omega)]
      refine ⟨fun c => ih (by omega) x (bset_congr hx (fun i _ => ⟨fun q => ⟨by omega, q.2⟩, fun q => ⟨?_, q.2⟩⟩)), fun c => ih (by omega) _ (bset_congr (bset_or hx (bset_shl (p := p) (by omega))) (fun i _ => ⟨fun q => ?_, fun q => ?_⟩))⟩
      · rcases Nat.lt_or_ge i p with z | z
        · exact z
        · have : i = p := by omega
          subst this
          exact absurd q.2.2.2 c
      · rcases q with q | q
        · exact ⟨by omega, q.2⟩
        · subst q; exact ⟨by omega, hl, hp, c⟩
      · rcases Nat.lt_or_ge i p with z | z
        · exact Or.inl ⟨z, q.2⟩
        · exact Or.inr (by omega)
  exact wqA lo hlh (Nat.le_refl _) 0 (bset_congr bset_0 (fun i _ => ⟨fun q => q.elim, fun q => by have := q.1; have := q.2.1; omega⟩))
theorem c_isAlone {a lo hi p : Nat} {F : Nat → Nat → Prop} (h0 : IsChains a) (hs : V a 7 = lo) (he : V a 8 = hi) (hlh : lo ≤ hi) (h20 : hi ≤ 20) (hE : isEnd F lo hi (V (a + 3))) (hB : isSta F lo hi (V (a + 2))) (hL : V a 5 = lw F lo hi) (h1 : lo ≤ p) (h2 : p < hi) : Mi K (d + 1) mX1_isAloneAtStep [vR a, vI (p : Int)] V (fun z V' => (z = 1 ∧ (∀ j, mayS F lo hi j → enf F lo hi j = enf F lo hi p → j = p) ∨ z = 0 ∧ ¬ (∀ j, mayS F lo hi j → enf F lo hi j = enf F lo hi p → j = p)) ∧ V' = V) := by
  refine sX1_isAloneAtStep a _ h0 ?_
  rw [hs]
  have wqA : ∀ q, q ≤ hi → lo ≤ q → (∀ j, j < q → mayS F lo hi j → enf F lo hi j = enf F lo hi p → j = p) → Wf K (d + 1) mX1_isAloneAtStep 5 [some (vR a), some (vI (p : Int)), some (vI (q : Int))] [] V (fun r V' => ∃ z, r = some (vI z) ∧ ((z = 1 ∧ (∀ j, mayS F lo hi j → enf F lo hi j = enf F lo hi p → j = p) ∨ z = 0 ∧ ¬ (∀ j, mayS F lo hi j → enf F lo hi j = enf F lo hi p → j = p)) ∧ V' = V)) := by
    refine up_ind ?_ ?_
    · intro _ hx
      exact sX1_isAloneAtStep_5 a _ _ h0 ⟨fun _ => ⟨_, rfl, Or.inl ⟨rfl, fun j hj => hx j hj.2.1 hj⟩, rfl⟩, fun c => absurd (by rw [he]; exact Int.le_refl _) c⟩
    · intro q hq ih hl hx
      have st : (mayS F lo hi q → enf F lo hi q = enf F lo hi p → q = p) → Wf K (d + 1) mX1_isAloneAtStep 5 [some (vR a), some (vI (p : Int)), some (vI ((q + 1 : Nat) : Int))] [] V (fun r V' => ∃ z, r = some (vI z) ∧ ((z = 1 ∧ (∀ j, mayS F lo hi j → enf F lo hi j = enf F lo hi p → j = p) ∨ z = 0 ∧ ¬ (∀ j, mayS F lo hi j → enf F lo hi j = enf F lo hi p → j = p)) ∧ V' = V)) := fun c => ih (by omega) (fun j hj => by
        rcases Nat.lt_or_ge j q with z | z
        · exact hx j z
        · have : j = q := by omega
          subst this
          exact c)
      refine sX1_isAloneAtStep_5 a _ _ h0 ⟨fun c => absurd c (by rw [he]; omega), fun _ => ?_⟩
      rw [tn, tn, on_w hE hB h20 hl hq, hL, w32_s (by omega), enf_eq hE hl hq, enf_eq hE h1 h2]
      refine ⟨fun c => st (fun _ _ => by omega), fun c => ⟨⟨by omega, by omega⟩, ⟨by omega, by omega⟩, fun c2 => st (fun _ w => absurd w c2), fun c2 => ⟨⟨by omega, by omega⟩, ⟨by omega, by omega⟩, fun c3 => st (fun w _ => absurd w.2.2 c3), fun c3 => ⟨_, rfl, Or.inr ⟨rfl, fun w => ?_⟩, rfl⟩⟩⟩⟩
      exact c (congrArg Int.ofNat (w q ⟨hl, hq, c3⟩ c2))
  exact wqA lo hlh (Nat.le_refl _) (fun j hj hm => by have := hm.1; omega)
theorem c_mustBits {a lo hi : Nat} {F : Nat → Nat → Prop} (h0 : IsChains a) (hs : V a 7 = lo) (he : V a 8 = hi) (hlh : lo ≤ hi) (h20 : hi ≤ 20) (hE : isEnd F lo hi (V (a + 3))) (hB : isSta F lo hi (V (a + 2))) (hL : V a 5 = lw F lo hi) : Mi K (d + 2) mX1_mustBits [vR a] V (fun z V' => bset (mustS F lo hi) z ∧ V' = V) := by
  refine sX1_mustBits a h0 ?_
  rw [hs]
  have wqA : ∀ p, p ≤ hi → lo ≤ p → ∀ x, bset (fun i => i < p ∧ mustS F lo hi i) x → Wf K (d + 2) mX1_mustBits 7 [some (vR a), some (vI x), some (vI (p : Int))] [] V (fun r V' => ∃ z, r = some (vI z) ∧ (bset (mustS F lo hi) z ∧ V' = V)) := by
    refine up_ind ?_ ?_
    · intro _ x hx
      exact sX1_mustBits_7 a _ _ h0 ⟨fun _ => ⟨_, rfl, bset_congr hx (fun i _ => ⟨fun q => q.2, fun q => ⟨q.1.2.1, q⟩⟩), rfl⟩, fun c => absurd (by rw [he]; exact Int.le_refl _) c⟩
    · intro p hp ih hl x hx
      have sk : ¬ mustS F lo hi p → Wf K (d + 2) mX1_mustBits 7 [some (vR a), some (vI x), some (vI ((p + 1 : Nat) : Int))] [] V (fun r V' => ∃ z, r = some (vI z) ∧ (bset (mustS F lo hi) z ∧ V' = V)) := fun c => ih (by omega) x (bset_congr hx (fun i _ => ⟨fun q => ⟨by omega, q.2⟩, fun q => ⟨by
        rcases Nat.lt_or_ge i p with z | z
        · exact z
        · have : i = p := by omega
          subst this
          exact absurd q.2 c, q.2⟩⟩))
      refine sX1_mustBits_7 a _ _ h0 ⟨fun c => absurd c (by rw [he]; omega), fun _ => ⟨⟨by omega, by omega⟩, ⟨by omega, by omega⟩, ?_⟩⟩
      rw [tn, on_w hE hB h20 hl hp, hL, w32_s (by omega)]
      refine ⟨fun c => sk (fun q => c q.1.2.2), fun c => (c_isAlone (d := d) h0 hs he hlh h20 hE hB hL hl hp).use ?_⟩
      rintro z V' ⟨h3, rfl⟩
      rcases h3 with ⟨rfl, h3⟩ | ⟨rfl, h3⟩
      · refine ⟨fun w => absurd w (by decide), fun _ => ih (by omega) _ (bset_congr (bset_or hx (bset_shl (p := p) (by omega))) (fun i _ => ⟨fun q => ?_, fun q => ?_⟩))⟩
        · rcases q with q | q
          · exact ⟨by omega, q.2⟩
          · subst q; exact ⟨by omega, ⟨hl, hp, c⟩, h3⟩
        · rcases Nat.lt_or_ge i p with z | z
          · exact Or.inl ⟨z, q.2⟩
          · exact Or.inr (by omega)
      · exact ⟨fun _ => sk (fun q => h3 q.2), fun w => absurd rfl w⟩
  exact wqA lo hlh (Nat.le_refl _) 0 (bset_congr bset_0 (fun i _ => ⟨fun q => q.elim, fun q => by have := q.1; have := q.2.1.1; omega⟩))
theorem x_may (hI : Icore P n R V) (r f t : Int) : Mi K (d + 5) mX11_may [vR 0, vI r, vI f, vI t] V (fun z V' => FrX V V' ∧ z = if winC V r f t then bts (mayS (FR P n V r.toNat) f.toNat t.toNat) else -1) := by
  refine sX11_may r f t ((c_loadWindow (d := d) hI r f t).use (fun z V' ⟨h1, h2⟩ => ?_))
  rcases h2 with ⟨q1, rfl⟩ | ⟨q1, rfl, j, lo, hi, m, rfl, rfl, rfl, b1, b2, b3, b4, b5, b6, b7, b8, b9, b10, b11, b12, b13⟩
  · exact ⟨fun _ => ⟨_, rfl, h1, by rw [if_neg q1]⟩, fun c => absurd rfl c⟩
  · refine ⟨fun c => absurd c (by decide), fun _ => (c_mayBits (d := d + 3) (V := V') is146 b8 b9 b2 (by omega) b11 b12 b13).use (fun z V2 ⟨k1, k2⟩ => ⟨_, rfl, by rw [k2]; exact h1, ?_⟩)⟩
    rw [if_pos q1, tn, tn, tn]
    exact bts_eq k1
theorem x_must (hI : Icore P n R V) (r f t : Int) : Mi K (d + 5) mX11_must [vR 0, vI r, vI f, vI t] V (fun z V' => FrX V V' ∧ z = if winC V r f t then bts (mustS (FR P n V r.toNat) f.toNat t.toNat) else -1) := by
  refine sX11_must r f t ((c_loadWindow (d := d) hI r f t).use (fun z V' ⟨h1, h2⟩ => ?_))
  rcases h2 with ⟨q1, rfl⟩ | ⟨q1, rfl, j, lo, hi, m, rfl, rfl, rfl, b1, b2, b3, b4, b5, b6, b7, b8, b9, b10, b11, b12, b13⟩
  · exact ⟨fun _ => ⟨_, rfl, h1, by rw [if_neg q1]⟩, fun c => absurd rfl c⟩
  · refine ⟨fun c => absurd c (by decide), fun _ => (c_mustBits (d := d + 2) (V := V') is146 b8 b9 b2 (by omega) b11 b12 b13).use (fun z V2 ⟨k1, k2⟩ => ⟨_, rfl, by rw [k2]; exact h1, ?_⟩)⟩
    rw [if_pos q1, tn, tn, tn]
    exact bts_eq k1
theorem m_mayOf {lo hi : Nat} {F : Nat → Nat → Prop} (hF : ∀ p q, lo ≤ q → q < p → p < hi → (Fm V p q ↔ F p q)) (hk : 0 ≤ V 369 22 ∧ V 369 22 ≤ 3) (hlh : lo ≤ hi) (h20 : hi ≤ 20) (hL : V 384 (21 * lo + hi) = lw F lo hi) : Mi K (d + 2) mX12_mayOf [vR 369, vI (lo : Int), vI (hi : Int)] V (fun z V' => (∀ c, c ≠ 385 → c ≠ 386 → c ≠ 387 → V' c = V c) ∧ isEnd F lo hi (V' 385) ∧ bset (mayS F lo hi) z) := by
  refine sX12_mayOf lo hi ((m_findsEnding (d := d) hk hlh h20).use (fun V1 ⟨k1, k2, _⟩ => ?_))
  have gF : Fm V1 = Fm V := by funext x y; unfold Fm; rw [k1 369 (by omega) (by omega), k1 383 (by omega) (by omega)]
  refine (m_findsStarting (d := d) (V := V1) (by rw [k1 369 (by omega) (by omega)]; exact hk) hlh h20).use (fun V2 ⟨g1, g2⟩ => ?_)
  rw [gF] at g2
  have hE : isEnd F lo hi (V2 385) := by rw [g1 385 (by omega)]; exact k2.congr hF
  have hB : isSta F lo hi (V2 386) := g2.congr hF
  have hL2 : V2 384 (21 * lo + hi) = lw F lo hi := by rw [g1 384 (by omega), k1 384 (by omega) (by omega)]; exact hL
  have wqA : ∀ p, p ≤ hi → lo ≤ p → ∀ x, bset (fun i => i < p ∧ mayS F lo hi i) x → Wf K (d + 2) mX12_mayOf 17 [some (vR 369), some (vI (lo : Int)), some (vI (hi : Int)), some (vI x), some (vI (p : Int))] [] V2 (fun r V' => ∃ z, r = some (vI z) ∧ ((∀ c, c ≠ 385 → c ≠ 386 → c ≠ 387 → V' c = V c) ∧ isEnd F lo hi (V' 385) ∧ bset (mayS F lo hi) z)) := by
    refine up_ind ?_ ?_
    · intro _ x hx
      exact sX12_mayOf_17 _ _ _ _ ⟨fun _ => ⟨_, rfl, fun c q1 q2 q3 => by rw [g1 c q2, k1 c q1 q3], hE, bset_congr hx (fun i _ => ⟨fun q => q.2, fun q => ⟨q.2.1, q⟩⟩)⟩, fun c => absurd (Int.le_refl _) c⟩
    · intro p hp ih hl x hx
      refine sX12_mayOf_17 _ _ _ _ ⟨fun c => by omega, fun _ => ?_⟩
      rw [ix21 (by omega) (by omega), tn, tn, on_w hE hB h20 hl hp, hL2, w32_s (by omega)]
      refine ⟨⟨by omega, by omega⟩, ⟨by omega, by omega⟩, ⟨by omega, by omega⟩, fun c => ih (by omega) _ (bset_congr (bset_or hx bset_0) (fun i _ => ⟨fun q => ?_, fun q => Or.inl ⟨?_, q.2⟩⟩)), fun c => ih (by omega) _ (bset_congr (bset_or hx (bset_shl (p := p) (by omega))) (fun i _ => ⟨fun q => ?_, fun q => ?_⟩))⟩
      · rcases q with q | q
        · exact ⟨by omega, q.2⟩
        · exact q.elim
      · rcases Nat.lt_or_ge i p with z | z
        · exact z
        · have : i = p := by omega
          subst this
          exact absurd q.2.2.2 c
      · rcases q with q | q
        · exact ⟨by omega, q.2⟩
        · subst q; exact ⟨by omega, hl, hp, c⟩
      · rcases Nat.lt_or_ge i p with z | z
        · exact Or.inl ⟨z, q.2⟩
        · exact Or.inr (by omega)
  exact wqA lo hlh (Nat.le_refl _) 0 (bset_congr bset_0 (fun i _ => ⟨fun q => q.elim, fun q => by have := q.1; have := q.2.1; omega⟩))
theorem m_may (hI : Icore P n R V) (r f t : Int) : Mi K (d + 5) mX12_may [vR 369, vI r, vI f, vI t] V (fun z V' => FrM V V' ∧ z = if winC V r f t then bts (mayS (FR P n V r.toNat) f.toNat t.toNat) else -1) := by
  refine sX12_may r f t (m_window (d := d + 2) hI r f t (fun hc V1 hV => ⟨fun c => absurd rfl c, fun _ => ⟨_, rfl, hV, by rw [if_neg hc]⟩⟩) ?_)
  rintro i lo hi m rfl rfl rfl b1 b2 b3 b4 b5 hc V1 hV
  obtain ⟨m', -, -, -, -, -, -, m7, m8⟩ := hI.row b1
  refine ⟨fun _ => m_laysAll (d := d) hI hV b1 b5 (fun V4 ⟨g1, g2, g3, g4, g5⟩ => ?_), fun c => absurd c (by decide)⟩
  refine (m_mayOf (d := d + 2) (V := V4) (lo := lo) (hi := hi) (fun p q h1 h2 h3 => Fm_FR g2 g4 (by omega) (by omega)) (by rw [g2]; exact ⟨m7, m8⟩) b2 (by omega) (g5 lo hi b2 b3)).use (fun z V5 ⟨k1, k2, k3⟩ => ⟨_, rfl, g1.tr ⟨fun c q1 q2 => k1 c (by omega) (by omega) (by omega), fun j _ _ _ _ => by rw [k1 369 (by omega) (by omega) (by omega)]⟩, ?_⟩)
  rw [if_pos hc, tn, tn, tn]
  exact bts_eq k3
/-- what is left of may when some pairs are gone through -/
abbrev leftS (F : Nat → Nat → Prop) (lo hi p q i : Nat) : Prop := mayS F lo hi i ∧ ∀ u v, v < u → (u < p ∨ (u = p ∧ v < q)) → mayS F lo hi u → mayS F lo hi v → enf F lo hi u = enf F lo hi v → i ≠ u ∧ i ≠ v
theorem m_must (hI : Icore P n R V) (r f t : Int) : Mi K (d + 5) mX12_must [vR 369, vI r, vI f, vI t] V (fun z V' => FrM V V' ∧ z = if winC V r f t then bts (mustS (FR P n V r.toNat) f.toNat t.toNat) else -1) := by
  refine sX12_must r f t (m_window (d := d + 2) hI r f t (fun hc V1 hV => ⟨fun c => absurd rfl c, fun _ => ⟨_, rfl, hV, by rw [if_neg hc]⟩⟩) ?_)
  rintro j lo hi m rfl rfl rfl b1 b2 b3 b4 b5 hc V1 hV
  obtain ⟨m', -, -, -, -, -, -, m7, m8⟩ := hI.row b1
  refine ⟨fun _ => m_laysAll (d := d) hI hV b1 b5 (fun V4 ⟨g1, g2, g3, g4, g5⟩ => ?_), fun c => absurd c (by decide)⟩
  refine (m_mayOf (d := d + 2) (V := V4) (lo := lo) (hi := hi) (fun p q h1 h2 h3 => Fm_FR g2 g4 (by omega) (by omega)) (by rw [g2]; exact ⟨m7, m8⟩) b2 (by omega) (g5 lo hi b2 b3)).use (fun y V5 ⟨k1, k2, k3⟩ => ?_)
  have f5 : FrM V V5 := g1.tr ⟨fun c q1 q2 => k1 c (by omega) (by omega) (by omega), fun j _ _ _ _ => by rw [k1 369 (by omega) (by omega) (by omega)]⟩
  rw [if_pos hc, tn, tn, tn]
  generalize FR P n V j = F at *
  have wqA : ∀ p, p ≤ hi → lo ≤ p → ∀ x, bset (leftS F lo hi p lo) x → Wf K (d + 5) mX12_must 37 [some (vR 369), none, some (vI (lo : Int)), some (vI (hi : Int)), some (vI y), some (vI x), some (vI (p : Int)), none, none] [] V5 (fun rr V' => ∃ z, rr = some (vI z) ∧ FrM V V' ∧ z = bts (mustS F lo hi)) := by
    refine up_ind ?_ ?_
    · intro _ x hx
      refine sX12_must_37 _ _ _ _ _ ⟨fun _ => ⟨_, rfl, f5, bts_eq (bset_congr hx (fun i _ => ⟨fun q => ⟨q.1, fun u hu he => ?_⟩, fun q => ⟨q.1, fun u v h1 h2 h3 h4 h5 => ⟨fun w => ?_, fun w => ?_⟩⟩⟩))⟩, fun c => absurd (Int.le_refl _) c⟩
      · rcases Nat.lt_trichotomy u i with w | w | w
        · exact absurd rfl (q.2 i u w (Or.inl q.1.2.1) q.1 hu he.symm).1
        · exact w
        · exact absurd rfl (q.2 u i w (Or.inl hu.2.1) hu q.1 he).2
      · subst w
        have := q.2 v h4 h5.symm
        omega
      · subst w
        have := q.2 u h3 h5
        omega
    · intro p hp ih hl x hx
      refine sX12_must_37 _ _ _ _ _ ⟨fun c => by omega, fun _ => ?_⟩
      have wqB : ∀ q, q ≤ p → lo ≤ q → ∀ x, bset (leftS F lo hi p q) x → Wf K (d + 5) mX12_must 46 [some (vR 369), none, some (vI (lo : Int)), some (vI (hi : Int)), some (vI y), some (vI x), some (vI (p : Int)), some (vI (q : Int)), none] [] V5 (fun rr V' => ∃ z, rr = some (vI z) ∧ FrM V V' ∧ z = bts (mustS F lo hi)) := by
        refine up_ind ?_ ?_
        · intro _ x hx
          refine sX12_must_46 _ _ _ _ _ _ ⟨fun _ => ?_, fun c => absurd (Int.le_refl _) c⟩
          rw [w32_s (by omega)]
          exact ih (by omega) x (bset_congr hx (fun i _ => ⟨fun w => ⟨w.1, fun u v h1 h2 h3 h4 => w.2 u v h1 (by have := h4.1; omega) h3 h4⟩, fun w => ⟨w.1, fun u v h1 h2 h3 h4 => w.2 u v h1 (by have := h4.1; omega) h3 h4⟩⟩))
        · intro q hq ih2 hlq x hx
          have sk : ¬ (mayS F lo hi p ∧ mayS F lo hi q ∧ enf F lo hi p = enf F lo hi q) → Wf K (d + 5) mX12_must 46 [some (vR 369), none, some (vI (lo : Int)), some (vI (hi : Int)), some (vI y), some (vI (b_iand x (-1))), some (vI (p : Int)), some (vI ((q + 1 : Nat) : Int)), none] [] V5 (fun rr V' => ∃ z, rr = some (vI z) ∧ FrM V V' ∧ z = bts (mustS F lo hi)) := fun c => ih2 (by omega) _ (bset_congr (bset_and hx bset_m1) (fun i _ => ⟨fun w => ⟨w.1.1, fun u v h1 h2 h3 h4 h5 => by
            rcases Decidable.em (u = p ∧ v = q) with z | z
            · obtain ⟨rfl, rfl⟩ := z
              exact absurd ⟨h3, h4, h5⟩ c
            · exact w.1.2 u v h1 (by omega) h3 h4 h5⟩, fun w => ⟨⟨w.1, fun u v h1 h2 h3 h4 h5 => w.2 u v h1 (by omega) h3 h4 h5⟩, trivial⟩⟩))
          refine sX12_must_46 _ _ _ _ _ _ ⟨fun c => by omega, fun _ => ?_⟩
          rw [bset_bit k3 (by omega), bset_bit k3 (by omega), tn, tn, enf_eq k2 hl hp, enf_eq k2 hlq (by omega), w32_s (by omega)]
          refine ⟨fun c => sk (fun w => c w.1), fun c => ⟨fun c2 => sk (fun w => c2 w.2.1), fun c2 => ⟨⟨by omega, by omega⟩, ⟨by omega, by omega⟩, fun c3 => sk (fun w => c3 w.2.2), fun c3 => ih2 (by omega) _ (bset_congr (bset_and hx (bset_not (bset_or (bset_shl (p := p) (by omega)) (bset_shl (p := q) (by omega))))) (fun i _ => ⟨fun w => ⟨w.1.1, fun u v h1 h2 h3 h4 h5 => ?_⟩, fun w => ⟨⟨w.1, fun u v h1 h2 h3 h4 h5 => w.2 u v h1 (by omega) h3 h4 h5⟩, fun z => ?_⟩⟩))⟩⟩⟩
          · rcases Decidable.em (u = p ∧ v = q) with z | z
            · obtain ⟨rfl, rfl⟩ := z
              exact ⟨fun z => w.2 (Or.inl z), fun z => w.2 (Or.inr z)⟩
            · exact w.1.2 u v h1 (by omega) h3 h4 h5
          · have := w.2 p q hq (by omega) c c2 c3
            omega
      exact wqB lo hl (Nat.le_refl _) x hx
  exact wqA lo b2 (Nat.le_refl _) y (bset_congr k3 (fun i _ => ⟨fun w => ⟨w, fun u v h1 h2 h3 h4 h5 => by have := h4.1; have := h3.1; omega⟩, fun w => w.1⟩))
end CMM
