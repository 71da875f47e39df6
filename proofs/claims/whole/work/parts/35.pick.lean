/-! ===== pick: the places of the first longest chain ===== -/
theorem isSta.ex (F : Nat → Nat → Prop) (hi : Nat) : ∀ k lo, lo + k = hi → ∃ B, isSta F lo hi B
  | 0, lo, h => ⟨fun _ => 0, isSta.nil (by omega)⟩
  | k + 1, lo, h => by
    obtain ⟨B, hB⟩ := isSta.ex F hi k (lo + 1) (by omega)
    obtain ⟨m, hm⟩ := Emx.ex (fun q => F q lo) B (lo + 1) k
    rw [show lo + 1 + k = hi by omega] at hm
    exact ⟨fun q => if q = lo then m + 1 else B q, hB.push hm (fun q hq => if_neg (by omega)) (if_pos rfl)⟩
theorem sta_ex (F : Nat → Nat → Prop) (lo hi : Nat) : ∃ B, isSta F lo hi B := by
  rcases Nat.le_total lo hi with h | h
  · exact isSta.ex F hi (hi - lo) lo (by omega)
  · exact ⟨fun _ => 0, isSta.nil h⟩
noncomputable def sta (F : Nat → Nat → Prop) (lo hi : Nat) : Nat → Int := Classical.choose (sta_ex F lo hi)
theorem sta_ok (F : Nat → Nat → Prop) (lo hi : Nat) : isSta F lo hi (sta F lo hi) := Classical.choose_spec (sta_ex F lo hi)
theorem sta_eq {F : Nat → Nat → Prop} {lo hi : Nat} {B : Nat → Int} (h : isSta F lo hi B) {p : Nat} (h1 : lo ≤ p) (h2 : p < hi) : B p = sta F lo hi p := h.un (sta_ok F lo hi) _ p rfl h1 h2
theorem end_ex (F : Nat → Nat → Prop) (lo hi : Nat) : ∃ B, isEnd F lo hi B := by
  obtain ⟨z, E, h1, -⟩ := lw_ex F lo hi
  exact ⟨E, h1⟩
noncomputable def enf (F : Nat → Nat → Prop) (lo hi : Nat) : Nat → Int := Classical.choose (end_ex F lo hi)
theorem enf_ok (F : Nat → Nat → Prop) (lo hi : Nat) : isEnd F lo hi (enf F lo hi) := Classical.choose_spec (end_ex F lo hi)
theorem enf_eq {F : Nat → Nat → Prop} {lo hi : Nat} {B : Nat → Int} (h : isEnd F lo hi B) {p : Nat} (h1 : lo ≤ p) (h2 : p < hi) : B p = enf F lo hi p := h.un (enf_ok F lo hi) p h1 h2
def lsI (o : Option Nat) : Int := match o with
  | none => -1
  | some q => (q : Int)
abbrev hit (F : Nat → Nat → Prop) (B : Nat → Int) (p : Nat) (o : Option Nat) (due : Int) : Prop := B p = due ∧ ∀ q, o = some q → F p q
noncomputable def pk (F : Nat → Nat → Prop) (B : Nat → Int) (L i : Int) : Nat → Nat → Option Nat → Int → Int
  | _, 0, _, _ => -1
  | p, f + 1, o, due => @ite Int (hit F B p o due) (Classical.propDecidable _) (if L - due = i then (p : Int) else pk F B L i (p + 1) f (some p) (due - 1)) (pk F B L i (p + 1) f o due)
theorem pk_m {F : Nat → Nat → Prop} {B : Nat → Int} {L i : Int} {p f : Nat} {o : Option Nat} {due : Int} (h : ¬ hit F B p o due) : pk F B L i p (f + 1) o due = pk F B L i (p + 1) f o due := by
  show @ite Int (hit F B p o due) (Classical.propDecidable _) _ _ = _
  rw [if_neg h]
theorem pk_h {F : Nat → Nat → Prop} {B : Nat → Int} {L i : Int} {p f : Nat} {o : Option Nat} {due : Int} (h : hit F B p o due) : pk F B L i p (f + 1) o due = if L - due = i then (p : Int) else pk F B L i (p + 1) f (some p) (due - 1) := by
  show @ite Int (hit F B p o due) (Classical.propDecidable _) _ _ = _
  rw [if_pos h]
theorem pk_out {F : Nat → Nat → Prop} {B : Nat → Int} {L i : Int} (hi : ¬ (0 ≤ i ∧ i < L)) : ∀ (f p : Nat) (o : Option Nat) (due : Int), due ≤ L → (∀ q, p ≤ q → q < p + f → 1 ≤ B q) → pk F B L i p f o due = -1
  | 0, _, _, _, _, _ => rfl
  | f + 1, p, o, due, h1, h2 => by
    have b := h2 p (Nat.le_refl _) (by omega)
    by_cases h : hit F B p o due
    · have hd := h.1
      rw [pk_h h, if_neg (by omega)]
      exact pk_out hi f (p + 1) _ _ (by omega) (fun q a c => h2 q (by omega) (by omega))
    · rw [pk_m h]
      exact pk_out hi f (p + 1) _ _ h1 (fun q a c => h2 q (by omega) (by omega))
section CPK
variable {K : KK} {d : Nat} {V : Mem} {P : Nat → Int × Int} {n R : Nat}
theorem c_placeOfFirst {a lo hi : Nat} {F : Nat → Nat → Prop} {L : Int} (h0 : IsChains a) (hk : 0 ≤ V a 6 ∧ V a 6 ≤ 3) (hs : V a 7 = lo) (he : V a 8 = hi) (hlh : lo ≤ hi) (h20 : hi ≤ 20) (hF : ∀ p q, lo ≤ q → q < p → p < hi → (Fc V a p q ↔ F p q)) (hB : isSta F lo hi (V (a + 2))) (hL : V a 5 = L) (hL2 : 0 ≤ L ∧ L ≤ 20) (i : Int) : Pu K (d + 2) mX1_placeOfFirst [vR a, vI i] V (pk F (sta F lo hi) L i lo (hi - lo) none L) := by
  have b1 : ∀ q, lo ≤ q → q < hi → 1 ≤ sta F lo hi q := fun q h1 h2 => (sta_ok F lo hi).ge h1 h2
  refine sX1_placeOfFirst a i h0 ⟨fun h => ⟨_, rfl, ?_, rfl⟩, fun h => ⟨fun h2 => ?_, fun h2 => ⟨_, rfl, ?_, rfl⟩⟩⟩
  · exact (pk_out (by omega) _ _ _ _ (Int.le_refl _) (fun q a c => b1 q a (by omega))).symm
  · rw [hL] at h2 ⊢
    rw [hs]
    have wqA : ∀ p, p ≤ hi → lo ≤ p → ∀ (o : Option Nat) (due : Int), 0 ≤ due → due ≤ L → (∀ q, o = some q → lo ≤ q ∧ q < p) → Wf K (d + 2) mX1_placeOfFirst 27 [some (vR a), some (vI i), some (vI (lsI o)), some (vI due), some (vI (p : Int))] [] V (fun r V' => ∃ z, r = some (vI z) ∧ z = pk F (sta F lo hi) L i p (hi - p) o due ∧ V' = V) := by
      refine up_ind ?_ ?_
      · intro _ o due h3 h4 h5
        exact sX1_placeOfFirst_27 a _ _ _ _ h0 ⟨fun _ => ⟨_, rfl, by rw [Nat.sub_self]; rfl, rfl⟩, fun c => absurd (by rw [he]; exact Int.le_refl _) c⟩
      · intro p hp ih hl o due h3 h4 h5
        have bp := b1 p hl hp
        refine sX1_placeOfFirst_27 a _ _ _ _ h0 ⟨fun c => absurd c (by rw [he]; omega), fun _ => ⟨⟨by omega, by omega⟩, ?_⟩⟩
        rw [tn, sta_eq hB hl hp, w32_s (i := p) (by omega), hL]
        rw [show hi - p = (hi - (p + 1)) + 1 by omega]
        refine ⟨fun c => ?_, fun c => ⟨fun c2 => ?_, fun c2 => ?_⟩⟩
        · rw [pk_m (fun q => c q.1)]
          exact ih (by omega) o due h3 h4 (fun q hq => ⟨(h5 q hq).1, by have := (h5 q hq).2; omega⟩)
        · have ho : o = none := by
            cases o with
            | none => rfl
            | some q => exact absurd c2 (by show ¬ ((q : Int) = -1); omega)
          subst ho
          rw [pk_h ⟨c, fun q hq => by cases hq⟩, w32_id (x := L - due) (by omega) (by omega), w32_id (x := due + (-1)) (by omega) (by omega)]
          refine ⟨fun c3 => ?_, fun c3 => ⟨_, rfl, by rw [if_pos c3], rfl⟩⟩
          rw [if_neg c3]
          exact ih (by omega) (some p) (due - 1) (by omega) (by omega) (fun q hq => by cases hq; exact ⟨hl, by omega⟩)
        · obtain ⟨q, rfl⟩ : ∃ q, o = some q := by
            cases o with
            | none => exact absurd rfl c2
            | some q => exact ⟨q, rfl⟩
          obtain ⟨q1, q2⟩ := h5 q rfl
          refine (c_follows (d := d) h0 hk (p := p) (q := q) (by omega) (by omega)).use ⟨fun z => ?_, fun z => ?_⟩
          · rw [pk_m (fun w => by
              have := (hF p q q1 q2 hp).mpr (w.2 q rfl)
              rw [if_pos this] at z
              cases z)]
            exact ih (by omega) (some q) due h3 h4 (fun t ht => by cases ht; exact ⟨q1, by omega⟩)
          · have hf : F p q := (hF p q q1 q2 hp).mp (Decidable.byContradiction (fun w => z (if_neg w)))
            rw [pk_h ⟨c, fun t ht => by cases ht; exact hf⟩, hL, w32_id (x := L - due) (by omega) (by omega), w32_id (x := due + (-1)) (by omega) (by omega)]
            refine ⟨fun c3 => ?_, fun c3 => ⟨_, rfl, by rw [if_pos c3], rfl⟩⟩
            rw [if_neg c3]
            exact ih (by omega) (some p) (due - 1) (by omega) (by omega) (fun t ht => by cases ht; exact ⟨hl, by omega⟩)
    exact wqA lo hlh (Nat.le_refl _) none L hL2.1 (Int.le_refl _) (fun q hq => by cases hq)
  · exact (pk_out (by omega) _ _ _ _ (Int.le_refl _) (fun q a c => b1 q a (by omega))).symm
theorem x_pick (hI : Icore P n R V) (r f t i : Int) : Mi K (d + 5) mX11_pick [vR 0, vI r, vI f, vI t, vI i] V (fun z V' => FrX V V' ∧ z = if winC V r f t then pk (FR P n V r.toNat) (sta (FR P n V r.toNat) f.toNat t.toNat) (lw (FR P n V r.toNat) f.toNat t.toNat) i f.toNat (t.toNat - f.toNat) none (lw (FR P n V r.toNat) f.toNat t.toNat) else -1) := by
  refine sX11_pick r f t i ((c_loadWindow (d := d) hI r f t).use (fun z V' ⟨h1, h2⟩ => ?_))
  rcases h2 with ⟨q1, rfl⟩ | ⟨q1, rfl, j, lo, hi, m, rfl, rfl, rfl, b1, b2, b3, b4, b5, b6, b7, b8, b9, b10, b11, b12, b13⟩
  · exact ⟨fun _ => ⟨_, rfl, h1, by rw [if_neg q1]⟩, fun c => absurd rfl c⟩
  · obtain ⟨m', -, -, -, -, -, -, m7, m8⟩ := hI.row b1
    have lr := lw_r (F := FR P n V j) (lo := lo) (hi := hi) b2
    refine ⟨fun c => absurd c (by decide), fun _ => (c_placeOfFirst (d := d + 2) (V := V') (F := FR P n V j) is146 (by rw [b7]; exact ⟨m7, m8⟩) b8 b9 b2 (by omega) (fun p q h3 h4 h5 => ?_) b12 b13 ⟨lr.1, by omega⟩ i).use ⟨_, rfl, h1, ?_⟩⟩
    · unfold Fc FR
      rw [b7, show (146 + 1 : Nat) = 147 from rfl, b10 p (by omega), b10 q (by omega)]
    · rw [if_pos q1, tn, tn, tn]
end CPK
