/-! ===== an index, told; the class reads it ===== -/
def upf (g : Nat → Nat) (a b : Nat) (k : Nat) : Nat := if k = a then b else g k
theorem upf_s {g : Nat → Nat} {a b : Nat} : upf g a b a = b := if_pos rfl
theorem upf_n {g : Nat → Nat} {a b k : Nat} (h : k ≠ a) : upf g a b k = g k := if_neg h
/-- where a reader stands: token, rows, braids, a law or none, the law, the rows' and the braids' tokens -/
abbrev IS := Nat × Nat × Nat × Nat × List (Int × Int) × (Nat → Nat) × (Nat → Nat)
def ixS (t : Nat → Int) (L : Nat) (s : IS) : Int × IS :=
  if cT t L s.1 = 128 then (rwF s.2.1 s.2.2.1 s.2.2.2.2.2.1 s.2.2.2.2.2.2 t L s.1, (rwE t L s.1 + 1, s.2.1 + 1, s.2.2.1, s.2.2.2.1, s.2.2.2.2.1, upf s.2.2.2.2.2.1 s.2.1 s.1, s.2.2.2.2.2.2))
  else if cT t L s.1 = 129 then (bdF s.2.1 s.2.2.1 s.2.2.2.2.2.1 s.2.2.2.2.2.2 t L s.1, (bdE t L s.1 + 1, s.2.1, s.2.2.1 + 1, s.2.2.2.1, s.2.2.2.2.1, s.2.2.2.2.2.1, upf s.2.2.2.2.2.2 s.2.2.1 s.1))
  else if cT t L s.1 = 130 then (if s.2.2.2.1 = 0 then (if (YR t L (s.1 + 1) true [] []).1 = -1 then 0 else (YR t L (s.1 + 1) true [] []).1) else ftT t L s.1 3, ((YR t L (s.1 + 1) true [] []).2.1 + 1, s.2.1, s.2.2.1, 1, (YR t L (s.1 + 1) true [] []).2.2, s.2.2.2.2.2.1, s.2.2.2.2.2.2))
  else (ftT t L s.1 1, s)
def ixF (t : Nat → Int) (L : Nat) : Nat → IS → Int × IS
  | 0, s => (0, s)
  | f + 1, s => if gT t L s.1 = 0 then (0, s) else if (ixS t L s).1 = 0 then ixF t L f (ixS t L s).2 else ((ixS t L s).1, s)
/-- the class's drafts -/
def XD (V : Mem) (t : Nat → Int) (L R B w : Nat) (C : List (Int × Int)) (rI bI : Nat → Nat) : Prop := XN V t L R B rI bI ∧ V 5 7 = 0 ∧ (∀ r, r < R → V (11 + 2 * r) 2 = cT t L (rI r + 2) - 136 ∧ V (11 + 2 * r) 3 = (rwQ t L (rI r) : Nat) ∧ ∀ p, p < rwQ t L (rI r) → V (12 + 2 * r) p = nT t L (rI r + 3 + p)) ∧ (∀ b, b < B → V (19 + 2 * b) 2 = (bdQ t L (bI b) : Nat) ∧ V (19 + 2 * b) 3 = (b : Nat) ∧ ∀ p, p < bdQ t L (bI b) → V (20 + 2 * b) p = nT t L (bI b + 2 + p)) ∧ V 4 7 = (w : Nat) ∧ V 35 2 = (C.length : Nat) ∧ ycod V C
abbrev XDs (V : Mem) (t : Nat → Int) (L : Nat) (s : IS) : Prop := XD V t L s.2.1 s.2.2.1 s.2.2.2.1 s.2.2.2.2.1 s.2.2.2.2.2.1 s.2.2.2.2.2.2
/-- what is known of what is told -/
def VD (t : Nat → Int) (L R B w : Nat) (C : List (Int × Int)) (rI bI : Nat → Nat) : Prop := ((∀ r, r < R → 1 ≤ rwQ t L (rI r) ∧ 136 ≤ cT t L (rI r + 2) ∧ cT t L (rI r + 2) ≤ 139) ∧ ∀ r s, r < R → s < R → wT 37 t L (rI r + 1) = wT 37 t L (rI s + 1) → r = s) ∧ ((∀ b, b < B → 1 ≤ bdQ t L (bI b) ∧ bdW t L (bI b + 2) (bdQ t L (bI b)) = true) ∧ ∀ r s, r < B → s < B → wT 37 t L (bI r + 1) = wT 37 t L (bI s + 1) → r = s) ∧ PW C 1 ∧ C.length ≤ 999 ∧ w ≤ 1
abbrev VDs (t : Nat → Int) (L : Nat) (s : IS) : Prop := VD t L s.2.1 s.2.2.1 s.2.2.2.1 s.2.2.2.2.1 s.2.2.2.2.2.1 s.2.2.2.2.2.2
theorem nn_ok {R B : Nat} {rI bI : Nat → Nat} {t : Nat → Int} {L i : Nat} (h : nnF R B rI bI t L i = 0) : gT t L i = 2 ∧ (∀ s, s < R → wT 37 t L (rI s + 1) ≠ wT 37 t L i) ∧ ∀ s, s < B → wT 37 t L (bI s + 1) ≠ wT 37 t L i := by
  unfold nnF at h
  by_cases c : nmT t L i = true
  · rw [if_pos c] at h
    by_cases q : dpT R B rI bI t L i = true
    · rw [if_pos q] at h
      exact absurd h (ft_nz (by omega))
    · have v1 := fsN_v (f := fun r => wT 37 t L (rI r + 1)) (e := wT 37 t L i) R
      have v2 := fsN_v (f := fun r => wT 37 t L (bI r + 1)) (e := wT 37 t L i) B
      have q1 : fsN (fun r => wT 37 t L (rI r + 1)) (wT 37 t L i) R = -1 := by
        by_cases x : fsN (fun r => wT 37 t L (rI r + 1)) (wT 37 t L i) R = -1
        · exact x
        · exact absurd (decide_eq_true (Or.inl x)) q
      have q2 : fsN (fun r => wT 37 t L (bI r + 1)) (wT 37 t L i) B = -1 := by
        by_cases x : fsN (fun r => wT 37 t L (bI r + 1)) (wT 37 t L i) B = -1
        · exact x
        · exact absurd (decide_eq_true (Or.inr x)) q
      refine ⟨(of_decide_eq_true c).1, ?_, ?_⟩
      · rcases v1 with ⟨_, v⟩ | ⟨s, v, _⟩
        · exact v
        · omega
      · rcases v2 with ⟨_, v⟩ | ⟨s, v, _⟩
        · exact v
        · omega
  · rw [if_neg c] at h
    exact absurd h (ft_nz (by omega))
theorem rw_ok {R B : Nat} {rI bI : Nat → Nat} {t : Nat → Int} {L i : Nat} (h : rwF R B rI bI t L i = 0) : R ≠ 4 ∧ nnF R B rI bI t L (i + 1) = 0 ∧ (136 ≤ cT t L (i + 2) ∧ cT t L (i + 2) ≤ 139) ∧ 1 ≤ rwQ t L i := by
  unfold rwF at h
  by_cases c1 : R = 4
  · rw [if_pos c1] at h
    exact absurd h (ft_nz (by omega))
  rw [if_neg c1] at h
  by_cases c2 : nnF R B rI bI t L (i + 1) = 0
  · rw [if_neg (fun x => x c2)] at h
    by_cases c3 : cT t L (i + 2) < 136 ∨ 139 < cT t L (i + 2)
    · rw [if_pos c3] at h
      exact absurd h (ft_nz (by omega))
    · rw [if_neg c3] at h
      unfold rwZ at h
      by_cases c4 : 0 < rwQ t L i ∧ cT t L (rwE t L i) = 59
      · exact ⟨c1, c2, by omega, c4.1⟩
      · rw [if_neg c4] at h
        by_cases c5 : gT t L (rwE t L i) = 3
        · rw [if_pos c5] at h
          by_cases c6 : nT t L (rwE t L i) ≤ 99
          · rw [if_pos c6] at h
            exact absurd h (ft_nz (by omega))
          · rw [if_neg c6] at h
            exact absurd h (ft_nz (by omega))
        · rw [if_neg c5] at h
          exact absurd h (ft_nz (by omega))
  · rw [if_pos c2] at h
    exact absurd h c2
theorem bd_ok {R B : Nat} {rI bI : Nat → Nat} {t : Nat → Int} {L i : Nat} (h : bdF R B rI bI t L i = 0) : B ≠ 4 ∧ nnF R B rI bI t L (i + 1) = 0 ∧ 1 ≤ bdQ t L i ∧ bdW t L (i + 2) (bdQ t L i) = true := by
  unfold bdF at h
  by_cases c1 : B = 4
  · rw [if_pos c1] at h
    exact absurd h (ft_nz (by omega))
  rw [if_neg c1] at h
  by_cases c2 : nnF R B rI bI t L (i + 1) = 0
  · rw [if_neg (fun x => x c2)] at h
    unfold bdZ at h
    by_cases c4 : 0 < bdQ t L i ∧ cT t L (bdE t L i) = 59
    · rw [if_pos c4] at h
      by_cases c5 : bdW t L (i + 2) (bdQ t L i) = true
      · exact ⟨c1, c2, c4.1, c5⟩
      · rw [if_neg c5] at h
        exact absurd h (ft_nz (by omega))
    · rw [if_neg c4] at h
      by_cases c5 : gT t L (bdE t L i) = 3
      · rw [if_pos c5] at h
        by_cases c6 : nT t L (bdE t L i) ≤ 9
        · rw [if_pos c6] at h
          exact absurd h (ft_nz (by omega))
        · rw [if_neg c6] at h
          exact absurd h (ft_nz (by omega))
      · rw [if_neg c5] at h
        exact absurd h (ft_nz (by omega))
  · rw [if_pos c2] at h
    exact absurd h c2
theorem bq_at {t : Nat → Int} {L b : Nat} : ∀ f a, a + f = 10 → (∀ k, k < a → bdG t L b k) → bqR t L b f a ≤ 10 ∧ ∀ k, k < bqR t L b f a → bdG t L b k
  | 0, a, e, h => ⟨by show a ≤ 10; omega, h⟩
  | f + 1, a, e, h => by
    by_cases c : bdB t L b a = true
    · have e2 : bqR t L b (f + 1) a = bqR t L b f (a + 1) := if_pos c
      rw [e2]
      refine bq_at f (a + 1) (by omega) (fun k hk => ?_)
      by_cases q : k = a
      · rw [q]
        have x : gT t L (b + a) = 3 ∧ nT t L (b + a) ≤ 9 ∧ ∀ k, k < a → nT t L (b + k) ≠ nT t L (b + a) := of_decide_eq_true c
        exact x
      · exact h k (by omega)
    · have e2 : bqR t L b (f + 1) a = a := if_neg c
      rw [e2]
      exact ⟨by omega, h⟩
/-- behind the last token there are none -/
theorem psT_end {t : Nat → Int} {L N : Nat} (h : psT t L N = L) : ∀ j, N ≤ j → psT t L j = L := by
  intro j hj
  induction j with
  | zero => rw [show 0 = N by omega]; exact h
  | succ j ih =>
    by_cases c : N ≤ j
    · have e := ih c
      have b : bpT t L (j + 1) = L := by
        show tkE t L (psT t L j) = L
        rw [e]
        unfold tkE
        rw [if_pos (Nat.le_refl _)]
      have l := (psT_le (t := t) (L := L) (j + 1)).2
      have g : bpT t L (j + 1) ≤ psT t L (j + 1) := (rnK_b (psT_le (t := t) (L := L) (j + 1)).1).1
      omega
    · rw [show j + 1 = N by omega]; exact h
theorem gT_lt {t : Nat → Int} {L N i : Nat} (h : psT t L N = L) (hg : gT t L i ≠ 0) : i ≤ N := by
  by_cases c : i ≤ N
  · exact c
  · refine absurd ?_ hg
    unfold gT
    rw [psT_end h i (by omega)]
    exact tk0.2 (Nat.le_refl _)
def XFr (V V' : Mem) : Prop := ∀ c, (c = 0 ∨ c = 2 ∨ c = 3 ∨ (37 ≤ c ∧ c ≤ 41) ∨ 43 ≤ c) → V' c = V c
/-- the class behind a statement -/
def XSp (t : Nat → Int) (L : Nat) (s : IS) (V : Mem) (z : Int) (V' : Mem) : Prop := XFr V V' ∧ V' 1 2 = (L : Nat) ∧ (((ixS t L s).1 = 0 ∧ z = 1 ∧ V' 1 3 = (bpT t L (ixS t L s).2.1 : Nat) ∧ V' 4 8 = V 4 8 ∧ XDs V' t L (ixS t L s).2 ∧ VDs t L (ixS t L s).2) ∨ ((ixS t L s).1 ≠ 0 ∧ z = 0 ∧ V' 4 8 = (ixS t L s).1))
section CIX
variable {K : KK} {d : Nat} {V : Mem} {t : Nat → Int} {L N i R B w : Nat} {C : List (Int × Int)} {rI bI : Nat → Nat}
theorem c_readStatement (hS : ∀ e, TSg K (d + 1 + e)) (hE : TE V t L) (hN : N ≤ 1000) (hP : psT t L N = L) (hX : XA V t L i) (hg : gT t L i ≠ 0) (hD : XD V t L R B w C rI bI) (hV : VD t L R B w C rI bI) : Mi K (d + 5) mX5_readStatement [vR 4, vR 1] V (XSp t L (i, R, B, w, C, rI, bI) V) := by
  have h7 : V 1 7 = cT t L i := hX.2.2.2.2.1
  obtain ⟨d1, d2, d3, d4, d5, d6, d7⟩ := hD
  obtain ⟨⟨v1, v2⟩, ⟨v3, v4⟩, v5, v6, v7⟩ := hV
  have d1' := d1
  obtain ⟨n1, n2, n3, n4, n5, n6⟩ := d1'
  refine sX5_readStatement ?_
  rw [h7]
  refine ⟨fun c => ?_, fun c => ?_, fun c => ?_, fun c => ?_⟩
  · -- a row
    have es : ixS t L (i, R, B, w, C, rI, bI) = (rwF R B rI bI t L i, (rwE t L i + 1, R + 1, B, w, C, upf rI R i, bI)) := if_pos c
    refine (c_readRow (d := d) hS hE d1 hX).use ?_
    rintro z X ⟨x1, x2, x3, x4⟩
    have xF : XFr V X := fun c hc => x1 c (by omega) (by omega) (by omega) (by omega) (by omega)
    rcases x4 with ⟨y1, y2, y3, y4, y5, y6, y7, y8, y9, y10⟩ | ⟨y1, y2, y3⟩
    · obtain ⟨o1, o2, o3, o4⟩ := rw_ok y1
      obtain ⟨p1, p2, p3⟩ := nn_ok o2
      refine ⟨Or.inr y2, z, rfl, xF, x3, Or.inl ?_⟩
      rw [es]
      refine ⟨y1, y2, y3, y4, ⟨⟨y5, by rw [y6 6 (by decide)]; exact n2, ?_, n4, fun r hr => ?_, fun b hb => ?_⟩, by rw [y6 7 (by decide)]; exact d2, fun r hr => ?_, fun b hb => ?_, by rw [x2 7 (by decide)]; exact d5, by rw [x1 35 (by decide) (by decide) (by decide) (by omega) (by omega)]; exact d6, ycod_congr C (fun j _ => by rw [x1 36 (by decide) (by decide) (by decide) (by omega) (by omega)]) d7⟩, ⟨⟨fun r hr => ?_, fun r s hr hs => ?_⟩, ⟨v3, v4⟩, v5, v6, v7⟩⟩
      · dsimp only; omega
      · dsimp only at hr ⊢
        by_cases q : r = R
        · rw [q, upf_s]; exact ⟨y7, p1⟩
        · rw [upf_n q, x1 (11 + 2 * r) (by omega) (by omega) (by omega) (by omega) (by omega)]; exact n5 r (by omega)
      · dsimp only at hb ⊢
        rw [x1 (19 + 2 * b) (by omega) (by omega) (by omega) (by omega) (by omega)]; exact n6 b hb
      · dsimp only at hr ⊢
        by_cases q : r = R
        · rw [q, upf_s]; exact ⟨y8, y9, y10⟩
        · rw [upf_n q, x1 (11 + 2 * r) (by omega) (by omega) (by omega) (by omega) (by omega), x1 (12 + 2 * r) (by omega) (by omega) (by omega) (by omega) (by omega)]; exact d3 r (by omega)
      · dsimp only at hb ⊢
        rw [x1 (19 + 2 * b) (by omega) (by omega) (by omega) (by omega) (by omega), x1 (20 + 2 * b) (by omega) (by omega) (by omega) (by omega) (by omega)]; exact d4 b hb
      · dsimp only at hr ⊢
        by_cases q : r = R
        · rw [q, upf_s]; exact ⟨o4, o3⟩
        · rw [upf_n q]; exact v1 r (by omega)
      · dsimp only at hr hs ⊢
        by_cases q : r = R
        · by_cases q2 : s = R
          · intro _; omega
          · rw [q, upf_s, upf_n q2]
            intro e
            exact absurd e.symm (p2 s (by omega))
        · by_cases q2 : s = R
          · rw [q2, upf_s, upf_n q]
            intro e
            exact absurd e (p2 r (by omega))
          · rw [upf_n q, upf_n q2]; exact v2 r s (by omega) (by omega)
    · refine ⟨Or.inl y2, z, rfl, xF, x3, Or.inr ?_⟩
      rw [es]
      exact ⟨y1, y2, y3⟩
  · -- a braid
    have es : ixS t L (i, R, B, w, C, rI, bI) = (bdF R B rI bI t L i, (bdE t L i + 1, R, B + 1, w, C, rI, upf bI B i)) := by
      unfold ixS
      dsimp only
      rw [if_neg (by omega), if_pos c]
    refine (c_readBraid (d := d) hS hE d1 hX).use ?_
    rintro z X ⟨x1, x2, x3, x4⟩
    have xF : XFr V X := fun c hc => x1 c (by omega) (by omega) (by omega) (by omega) (by omega)
    rcases x4 with ⟨y1, y2, y3, y4, y5, y6, y7, y8, y9, y10⟩ | ⟨y1, y2, y3⟩
    · obtain ⟨o1, o2, o3, o4⟩ := bd_ok y1
      obtain ⟨p1, p2, p3⟩ := nn_ok o2
      refine ⟨Or.inr y2, z, rfl, xF, x3, Or.inl ?_⟩
      rw [es]
      refine ⟨y1, y2, y3, y4, ⟨⟨by rw [y6 5 (by decide)]; exact n1, y5, n3, ?_, fun r hr => ?_, fun b hb => ?_⟩, by rw [y6 7 (by decide)]; exact d2, fun r hr => ?_, fun b hb => ?_, by rw [x2 7 (by decide)]; exact d5, by rw [x1 35 (by decide) (by decide) (by decide) (by omega) (by omega)]; exact d6, ycod_congr C (fun j _ => by rw [x1 36 (by decide) (by decide) (by decide) (by omega) (by omega)]) d7⟩, ⟨⟨v1, v2⟩, ⟨fun b hb => ?_, fun r s hr hs => ?_⟩, v5, v6, v7⟩⟩
      · dsimp only; omega
      · dsimp only at hr ⊢
        rw [x1 (11 + 2 * r) (by omega) (by omega) (by omega) (by omega) (by omega)]; exact n5 r hr
      · dsimp only at hb ⊢
        by_cases q : b = B
        · rw [q, upf_s]; exact ⟨y7, p1⟩
        · rw [upf_n q, x1 (19 + 2 * b) (by omega) (by omega) (by omega) (by omega) (by omega)]; exact n6 b (by omega)
      · dsimp only at hr ⊢
        rw [x1 (11 + 2 * r) (by omega) (by omega) (by omega) (by omega) (by omega), x1 (12 + 2 * r) (by omega) (by omega) (by omega) (by omega) (by omega)]; exact d3 r hr
      · dsimp only at hb ⊢
        by_cases q : b = B
        · rw [q, upf_s]; exact ⟨y8, y9, y10⟩
        · rw [upf_n q, x1 (19 + 2 * b) (by omega) (by omega) (by omega) (by omega) (by omega), x1 (20 + 2 * b) (by omega) (by omega) (by omega) (by omega) (by omega)]; exact d4 b (by omega)
      · dsimp only at hb ⊢
        by_cases q : b = B
        · rw [q, upf_s]; exact ⟨o3, o4⟩
        · rw [upf_n q]; exact v3 b (by omega)
      · dsimp only at hr hs ⊢
        by_cases q : r = B
        · by_cases q2 : s = B
          · intro _; omega
          · rw [q, upf_s, upf_n q2]
            intro e
            exact absurd e.symm (p3 s (by omega))
        · by_cases q2 : s = B
          · rw [q2, upf_s, upf_n q]
            intro e
            exact absurd e (p3 r (by omega))
          · rw [upf_n q, upf_n q2]; exact v4 r s (by omega) (by omega)
    · refine ⟨Or.inl y2, z, rfl, xF, x3, Or.inr ?_⟩
      rw [es]
      exact ⟨y1, y2, y3⟩
  · -- a law
    have es : ixS t L (i, R, B, w, C, rI, bI) = (if w = 0 then (if (YR t L (i + 1) true [] []).1 = -1 then 0 else (YR t L (i + 1) true [] []).1) else ftT t L i 3, ((YR t L (i + 1) true [] []).2.1 + 1, R, B, 1, (YR t L (i + 1) true [] []).2.2, rI, bI)) := by
      unfold ixS
      dsimp only
      rw [if_neg (by omega), if_neg (by omega), if_pos c]
    refine (c_readLaw (d := d) hS hE hX hg hN hP (gT_lt hP hg)).use ?_
    rintro z X (⟨l1, l2, ⟨x1, x2⟩, x3, x4⟩ | ⟨l1, l2, l3⟩)
    · have w0 : w = 0 := by omega
      rw [if_pos w0] at es
      have xC : ∀ c, c ≠ 1 → c ≠ 4 → c ≠ 35 → c ≠ 36 → c ≠ 42 → X c = V c := fun c p1 p2 p3 p4 p5 => by rw [x1 c p1 p2 p3 p4 p5, upm_off c p2]
      have xF : XFr V X := fun c hc => xC c (by omega) (by omega) (by omega) (by omega) (by omega)
      generalize YR t L (i + 1) true [] [] = Y at *
      rcases x4 with ⟨y1, y2, y3, y4, y5, y6, y7, y8, y9⟩ | ⟨y1, y2, y3⟩
      · refine ⟨Or.inr y2, z, rfl, xF, x3, Or.inl ?_⟩
        rw [es, if_pos y1]
        refine ⟨rfl, y2, y3, by rw [y4, upm_k (by decide)], ⟨d1.congr (fun c q1 q2 => xC c (by omega) (by omega) (by omega) (by omega) (by omega)), by rw [xC 5 (by decide) (by decide) (by decide) (by decide) (by decide)]; exact d2, fun r hr => ?_, fun b hb => ?_, l2, y5, y6⟩, ⟨⟨v1, v2⟩, ⟨v3, v4⟩, y7, y8, Nat.le_refl _⟩⟩
        · dsimp only at hr ⊢
          rw [xC (11 + 2 * r) (by omega) (by omega) (by omega) (by omega) (by omega), xC (12 + 2 * r) (by omega) (by omega) (by omega) (by omega) (by omega)]; exact d3 r hr
        · dsimp only at hb ⊢
          rw [xC (19 + 2 * b) (by omega) (by omega) (by omega) (by omega) (by omega), xC (20 + 2 * b) (by omega) (by omega) (by omega) (by omega) (by omega)]; exact d4 b hb
      · refine ⟨Or.inl y2, z, rfl, xF, x3, Or.inr ?_⟩
        rw [es, if_neg (by omega)]
        exact ⟨by dsimp only; omega, y2, y3⟩
    · have w0 : ¬ w = 0 := by omega
      rw [if_neg w0] at es
      refine ⟨Or.inl l2, z, rfl, fun c hc => by rw [l3, upm_off c (by omega)], by rw [l3, upm_off 1 (by decide)]; exact hX.1, Or.inr ?_⟩
      rw [es, l3]
      exact ⟨ft_nz (by omega), l2, upm_s _ _ _ _⟩
  · have es : ixS t L (i, R, B, w, C, rI, bI) = (ftT t L i 1, (i, R, B, w, C, rI, bI)) := by
      unfold ixS
      dsimp only
      rw [if_neg (by omega), if_neg (by omega), if_neg (by omega)]
    rw [ftX hE hX (by omega)]
    refine ⟨0, rfl, fun c hc => upm_off c (by omega), by rw [upm_off 1 (by decide)]; exact hX.1, Or.inr ?_⟩
    rw [es]
    exact ⟨ft_nz (by omega), rfl, upm_s _ _ _ _⟩
end CIX
