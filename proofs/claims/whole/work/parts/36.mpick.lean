/-! ===== pick, the reference's side ===== -/
section CPM
variable {K : KK} {d : Nat} {V : Mem} {P : Nat → Int × Int} {n R : Nat}
/-- one step of the reference's loop: whether it is a hit -/
theorem m_pick_step {V5 : Mem} {lo hi p : Nat} {i due ls : Int} {Q : Option AV → Mem → Prop} (b : Bool) (h96 : lo ≤ 20 ∧ hi ≤ 20 ∧ p < 20) (hd : 0 ≤ due ∧ due ≤ 20) (hL : 0 ≤ V5 384 (21 * lo + hi) ∧ V5 384 (21 * lo + hi) ≤ 20)
    (h1 : b = true → V5 384 (21 * lo + hi) - due = i → Q (some (vI (p : Int))) V5) (h2 : b = true → ¬ V5 384 (21 * lo + hi) - due = i → Wf K (d + 2) mX12_pick 42 [some (vR 369), none, some (vI (lo : Int)), some (vI (hi : Int)), some (vI i), some (vI (due - 1)), some (vI (p : Int)), some (vI ((p + 1 : Nat) : Int)), none] [] V5 Q)
    (h3 : b = false → Wf K (d + 2) mX12_pick 42 [some (vR 369), none, some (vI (lo : Int)), some (vI (hi : Int)), some (vI i), some (vI due), some (vI ls), some (vI ((p + 1 : Nat) : Int)), none] [] V5 Q) :
    Wf K (d + 2) mX12_pick 96 [some (vR 369), none, some (vI (lo : Int)), some (vI (hi : Int)), some (vI i), some (vI due), some (vI ls), some (vI (p : Int)), none] [vI (if b = true then 1 else 0)] V5 Q := by
  refine sX12_pick_96 _ _ _ _ _ _ _ ⟨fun c => ?_, fun c => ?_⟩
  · have hb : b = false := by
      cases b with
      | true => cases c
      | false => rfl
    subst hb
    refine sX12_pick_120 _ _ _ _ _ _ _ ⟨fun _ => ?_, fun c2 => absurd rfl c2⟩
    refine sX12_pick_132 _ _ _ _ _ _ _ ⟨fun _ => ?_, fun c2 => absurd rfl c2⟩
    refine sX12_pick_146 _ _ _ _ _ _ _ ?_
    rw [Int.sub_zero, w32_id (x := due) (by omega) (by omega), w32_s (i := p) (by omega)]
    exact h3 rfl
  · have hb : b = true := by
      cases b with
      | true => rfl
      | false => exact absurd rfl c
    subst hb
    rw [ix21 h96.1 h96.2.1, tn, w32_id (x := V5 384 (21 * lo + hi) - due) (by omega) (by omega)]
    refine ⟨⟨by omega, by omega⟩, fun c2 => ?_, fun c2 => h1 rfl c2.symm⟩
    refine sX12_pick_120 _ _ _ _ _ _ _ ⟨fun c3 => absurd c3 (by decide), fun _ => ?_⟩
    refine sX12_pick_132 _ _ _ _ _ _ _ ⟨fun c3 => absurd c3 (by decide), fun _ => ?_⟩
    refine sX12_pick_146 _ _ _ _ _ _ _ ?_
    rw [w32_id (x := due - 1) (by omega) (by omega), w32_s (i := p) (by omega)]
    exact h2 rfl (fun q => c2 q.symm)
theorem m_pick (hI : Icore P n R V) (r f t i : Int) : Mi K (d + 5) mX12_pick [vR 369, vI r, vI f, vI t, vI i] V (fun z V' => FrM V V' ∧ z = if winC V r f t then pk (FR P n V r.toNat) (sta (FR P n V r.toNat) f.toNat t.toNat) (lw (FR P n V r.toNat) f.toNat t.toNat) i f.toNat (t.toNat - f.toNat) none (lw (FR P n V r.toNat) f.toNat t.toNat) else -1) := by
  refine sX12_pick r f t i (m_window (d := d + 2) hI r f t (fun hc V1 hV => ⟨fun c => absurd rfl c, fun _ => ⟨_, rfl, hV, by rw [if_neg hc]⟩⟩) ?_)
  rintro j lo hi m rfl rfl rfl b1 b2 b3 b4 b5 hc V1 hV
  obtain ⟨m', -, -, -, -, -, -, m7, m8⟩ := hI.row b1
  refine ⟨fun _ => m_laysAll (d := d) hI hV b1 b5 (fun V4 hLd => ?_), fun c => absurd c (by decide)⟩
  obtain ⟨g1, g2, g3, g4, g5⟩ := id hLd
  refine (m_findsStarting (d := d + 3) (V := V4) (lo := lo) (hi := hi) (by rw [g2]; exact ⟨m7, m8⟩) b2 (by omega)).use (fun V5 ⟨k1, k2⟩ => ?_)
  have f5 : FrM V V5 := g1.tr ⟨fun c q1 q2 => k1 c (by omega), fun j2 _ _ _ _ => by rw [k1 369 (by omega)]⟩
  have hB : isSta (FR P n V j) lo hi (V5 386) := k2.congr (fun p q h1 h2 h3 => Fm_FR g2 g4 (by omega) (by omega))
  have lr := lw_r (F := FR P n V j) (lo := lo) (hi := hi) b2
  have hL : V5 384 (21 * lo + hi) = lw (FR P n V j) lo hi := by rw [k1 384 (by omega)]; exact g5 lo hi b2 b3
  rw [ix21 (show lo ≤ 20 by omega) (show hi ≤ 20 by omega), tn, if_pos hc]
  simp only [tn]
  rw [hL]
  refine ⟨⟨by omega, by omega⟩, ?_⟩
  have bs : ∀ q, lo ≤ q → q < hi → 1 ≤ sta (FR P n V j) lo hi q := fun q h1 h2 => (sta_ok (FR P n V j) lo hi).ge h1 h2
  generalize hLL : lw (FR P n V j) lo hi = L at hL lr ⊢
  have wqA : ∀ p, p ≤ hi → lo ≤ p → ∀ (o : Option Nat) (due : Int), 0 ≤ due → due ≤ L → (∀ q, o = some q → lo ≤ q ∧ q < p) → Wf K (d + 5) mX12_pick 42 [some (vR 369), none, some (vI (lo : Int)), some (vI (hi : Int)), some (vI i), some (vI due), some (vI (lsI o)), some (vI (p : Int)), none] [] V5 (fun rr V' => ∃ z, rr = some (vI z) ∧ FrM V V' ∧ z = pk (FR P n V j) (sta (FR P n V j) lo hi) L i p (hi - p) o due) := by
    refine up_ind ?_ ?_
    · intro _ o due h3 h4 h5
      exact sX12_pick_42 _ _ _ _ _ _ ⟨fun _ => ⟨_, rfl, f5, by rw [Nat.sub_self]; rfl⟩, fun c => absurd (Int.le_refl _) c⟩
    · intro p hp ih hl o due h3 h4 h5
      have bp := bs p hl hp
      have hstep : ∀ b : Bool, (b = true ↔ hit (FR P n V j) (sta (FR P n V j) lo hi) p o due) → Wf K (d + 5) mX12_pick 96 [some (vR 369), none, some (vI (lo : Int)), some (vI (hi : Int)), some (vI i), some (vI due), some (vI (lsI o)), some (vI (p : Int)), none] [vI (if b = true then 1 else 0)] V5 (fun rr V' => ∃ z, rr = some (vI z) ∧ FrM V V' ∧ z = pk (FR P n V j) (sta (FR P n V j) lo hi) L i p (hi - p) o due) := by
        intro b hb
        refine m_pick_step (d := d + 3) b ⟨by omega, by omega, by omega⟩ ⟨h3, by omega⟩ (by rw [hL]; omega) (fun q1 q2 => ?_) (fun q1 q2 => ?_) (fun q1 => ?_)
        · refine ⟨_, rfl, f5, ?_⟩
          rw [show hi - p = (hi - (p + 1)) + 1 by omega, pk_h (hb.mp q1), if_pos (by rw [← hL]; exact q2)]
        · have hh := hb.mp q1
          have hd := hh.1
          have hz : pk (FR P n V j) (sta (FR P n V j) lo hi) L i p (hi - p) o due = pk (FR P n V j) (sta (FR P n V j) lo hi) L i (p + 1) (hi - (p + 1)) (some p) (due - 1) := by
            rw [show hi - p = (hi - (p + 1)) + 1 by omega, pk_h hh, if_neg (by rw [← hL]; exact q2)]
          rw [hz]
          exact ih (by omega) (some p) (due - 1) (by omega) (by omega) (fun q hq => by cases hq; exact ⟨hl, by omega⟩)
        · have hh : ¬ hit (FR P n V j) (sta (FR P n V j) lo hi) p o due := fun q => by rw [hb.mpr q] at q1; cases q1
          have hz : pk (FR P n V j) (sta (FR P n V j) lo hi) L i p (hi - p) o due = pk (FR P n V j) (sta (FR P n V j) lo hi) L i (p + 1) (hi - (p + 1)) o due := by
            rw [show hi - p = (hi - (p + 1)) + 1 by omega, pk_m hh]
          rw [hz]
          exact ih (by omega) o due h3 h4 (fun q hq => ⟨(h5 q hq).1, by have := (h5 q hq).2; omega⟩)
      refine sX12_pick_42 _ _ _ _ _ _ ⟨fun c => by omega, fun _ => ⟨fun c => ?_, fun c => ⟨⟨by omega, by omega⟩, ?_⟩⟩⟩
      · refine sX12_pick_95 _ _ _ _ _ _ (hstep false ⟨fun q => (by cases q), fun q => ?_⟩)
        have := q.1
        omega
      · rw [tn, sta_eq hB hl hp]
        refine ⟨fun c2 => sX12_pick_95 _ _ _ _ _ _ (hstep false ⟨fun q => (by cases q), fun q => absurd q.1 c2⟩), fun c2 => ⟨fun c3 => ?_, fun c3 => ?_⟩⟩
        · have ho : o = none := by
            cases o with
            | none => rfl
            | some q => exact absurd c3 (by show ¬ ((q : Int) < 0); omega)
          subst ho
          exact sX12_pick_91 _ _ _ _ _ _ (hstep true ⟨fun _ => ⟨c2, fun q hq => by cases hq⟩, fun _ => rfl⟩)
        · obtain ⟨q, rfl⟩ : ∃ q, o = some q := by
            cases o with
            | none => exact absurd (by show (-1 : Int) < 0; decide) c3
            | some q => exact ⟨q, rfl⟩
          obtain ⟨q1, q2⟩ := h5 q rfl
          have eq1 : lsI (some q) = (q : Int) := rfl
          rw [eq1, tn]
          refine ⟨⟨by omega, by omega⟩, ⟨by omega, by omega⟩, ?_⟩
          have e369 : V5 369 22 = V 375 (3 + 22 * j) := by rw [k1 369 (by omega)]; exact g2
          have e383 : ∀ x, x < m → V5 383 x = wR P n V j x := fun x hx => by rw [k1 383 (by omega)]; exact g4 x hx
          refine (m_follows (d := d + 4) (V := V5) (by rw [e369]; exact ⟨m7, m8⟩) _ _).use ?_
          rw [e369, e383 p (by omega), e383 q (by omega)]
          by_cases hf : FR P n V j p q
          · rw [if_pos hf]
            exact ⟨fun c4 => absurd c4 (by decide), fun _ => sX12_pick_91 _ _ _ _ _ _ (hstep true ⟨fun _ => ⟨c2, fun x hx => by cases hx; exact hf⟩, fun _ => rfl⟩)⟩
          · rw [if_neg hf]
            exact ⟨fun _ => sX12_pick_95 _ _ _ _ _ _ (hstep false ⟨fun x => (by cases x), fun x => absurd (x.2 q rfl) hf⟩), fun c4 => absurd rfl c4⟩
  exact wqA lo b2 (Nat.le_refl _) none L (by omega) (Int.le_refl _) (fun q hq => by cases hq)
end CPM
