/-! ===== the reference reads a statement ===== -/
def MD (V : Mem) (t : Nat → Int) (L R B w : Nat) (C : List (Int × Int)) (rI bI : Nat → Nat) : Prop := MN V t L R B rI bI ∧ (∀ r, r < R → 1 ≤ rwQ t L (rI r) ∧ V 375 (143 + 22 * r) = cT t L (rI r + 2) - 136 ∧ V 375 (144 + 22 * r) = (rwQ t L (rI r) : Nat) ∧ ∀ p, p < rwQ t L (rI r) → V 375 (145 + 22 * r + p) = nT t L (rI r + 3 + p)) ∧ (∀ b, b < B → V 375 (231 + 11 * b) = (bdQ t L (bI b) : Nat) ∧ ∀ p, p < bdQ t L (bI b) → V 375 (232 + 11 * b + p) = nT t L (bI b + 2 + p)) ∧ ((w = 0 ∧ V 375 142 = -1 ∧ V 369 12 = 0 ∧ C = [(2, 0)]) ∨ (w = 1 ∧ V 375 142 = 0 ∧ (V 369 12 = ((C.length + 1 : Nat) : Int) ∧ C.length ≤ 1000) ∧ mcd V 1100 C ∧ V 376 (1100 + C.length) = 0))
abbrev MDs (V : Mem) (t : Nat → Int) (L : Nat) (s : IS) : Prop := MD V t L s.2.1 s.2.2.1 s.2.2.2.1 s.2.2.2.2.1 s.2.2.2.2.2.1 s.2.2.2.2.2.2
def MFi (V V' : Mem) : Prop := (∀ c, c ≠ 369 → c ≠ 375 → c ≠ 376 → c ≠ 377 → V' c = V c) ∧ (∀ j, j ≠ 7 → j ≠ 8 → j ≠ 12 → V' 369 j = V 369 j) ∧ (∀ j, j < 140 → V' 375 j = V 375 j) ∧ (∀ j, j < 8 → V' 377 j = V 377 j) ∧ ∀ j, j < 1100 → V' 376 j = V 376 j
theorem MFi.trans {V V' V'' : Mem} (h : MFi V V') (h2 : MFi V' V'') : MFi V V'' := ⟨fun c p1 p2 p3 p4 => by rw [h2.1 c p1 p2 p3 p4]; exact h.1 c p1 p2 p3 p4, fun j p1 p2 p3 => by rw [h2.2.1 j p1 p2 p3]; exact h.2.1 j p1 p2 p3, fun j p => by rw [h2.2.2.1 j p]; exact h.2.2.1 j p, fun j p => by rw [h2.2.2.2.1 j p]; exact h.2.2.2.1 j p, fun j p => by rw [h2.2.2.2.2 j p]; exact h.2.2.2.2 j p⟩
theorem MFr.fi {V V' : Mem} (h : MFr V V') : MFi V V' := ⟨fun c p1 p2 _ p4 => h.1 c p1 p2 p4, fun j p1 p2 _ => h.2.1 j p1 p2, h.2.2.1, h.2.2.2, fun j _ => by rw [h.1 376 (by decide) (by decide) (by decide)]⟩
theorem MLf.fi {c : Nat} {V V' : Mem} (h : MLf c V V') : MFi V V' := ⟨fun x p1 _ p3 _ => h.1 x p1 p3, h.2.1, fun j _ => by rw [h.1 375 (by decide) (by decide)], fun j _ => by rw [h.1 377 (by decide) (by decide)], fun j hj => h.2.2 j (by omega)⟩
def MLn (t : Nat → Int) (L N : Nat) (s : IS) (V V' : Mem) : Prop := MFi V V' ∧ ((0 < V' 369 8 ∧ (ixS t L s).1 = V' 369 8 ∧ ∃ j : Nat, V' 369 7 = (j : Int) ∧ j ≤ 1001) ∨ (V' 369 8 = 0 ∧ ∃ e, RS V' t L N e ∧ (ixS t L s).2.1 = e + 1 ∧ (ixS t L s).1 = (if cT t L e = 59 then 0 else ftT t L e 1) ∧ (cT t L e = 59 → MDs V' t L (ixS t L s).2)))
section MIX
variable {K : KK} {d : Nat} {V : Mem} {t : Nat → Int} {L N i R B w : Nat} {C : List (Int × Int)} {rI bI : Nat → Nat}
theorem m_readLine (hL : L ≤ 1000) (hP : psT t L N = L) (h : RS V t L N i) (h8 : V 369 8 = 0) (hg : gT t L i ≠ 0) (hD : MD V t L R B w C rI bI) : Mv K (d + 33) mX12_readLine [vR 369] V (MLn t L N (i, R, B, w, C, rI, bI) V) := by
  obtain ⟨d1, d2, d3, d4⟩ := hD
  have d1' := d1
  obtain ⟨n1, n2, n3, n4, n5, n6⟩ := d1'
  have hi := h.2.1
  have hN := h.2.2.1
  have a1 := h.1
  have b1 : V 372 i = (psT t L i : Nat) := (h.2.2.2.1 i hi).1
  have hi1 := tk_nx hP hi hg
  have q20 : ∀ j, rwQ t L j ≤ 20 := fun j => (nr_at 20 (j + 3)).1
  have q10 : ∀ j, bdQ t L j ≤ 10 := fun j => (bq_at (t := t) (L := L) (b := j + 2) 10 0 rfl (fun k hk => by omega)).1
  refine sX12_readLine ((m_isWord (d := d + 32) (k := 0) h (by decide) h8).use ?_)
  by_cases c0 : cT t L i = 128 + ((0 : Nat) : Int)
  · rw [if_pos c0]
    refine ⟨fun x => absurd x (by decide), fun _ => ?_⟩
    have es : ixS t L (i, R, B, w, C, rI, bI) = (rwF R B rI bI t L i, (rwE t L i + 1, R + 1, B, w, C, upf rI R i, bI)) := if_pos (by dsimp only; omega)
    refine Mv.use (m_readRow (d := d + 28) hL hP h h8 hg d1) ?_
    rintro X ⟨x1, x2⟩
    refine ⟨rfl, x1.fi, ?_⟩
    rw [es]
    rcases x2 with ⟨y1, y2, y3⟩ | ⟨y1, y2, y3, y4, y5, y6, y7, y8, y9, y10, y11⟩
    · exact Or.inl ⟨y1, y2, y3⟩
    · have gl : gT t L (i + 3 + (rwQ t L i - 1)) = 3 := ((nr_at (hi := 99) (t := t) (L := L) 20 (i + 3)).2 (rwQ t L i - 1) (by have : nrR 99 t L 20 (i + 3) = rwQ t L i := rfl; omega)).1
      have le := tk_nx hP (gT_lt hP (i := i + 3 + (rwQ t L i - 1)) (by omega)) (by omega)
      have eE : rwE t L i = i + 3 + (rwQ t L i - 1) + 1 := by unfold rwE; omega
      refine Or.inr ⟨y1, rwE t L i, x1.rs h y2 (by omega), rfl, y4, fun c59 => ?_⟩
      have f0 : rwF R B rI bI t L i = 0 := by rw [y4, if_pos c59]
      obtain ⟨o1, o2, o3, o4⟩ := rw_ok f0
      refine ⟨⟨y5, by rw [y9 141 (by omega) (by omega)]; exact n2, by dsimp only; omega, n4, fun r hr => ?_, fun b hb => ?_⟩, fun r hr => ?_, fun b hb => ?_, ?_⟩
      · dsimp only at hr ⊢
        by_cases q : r = R
        · rw [q, upf_s]; exact y10
        · rw [upf_n q, y11 (8 + r) (by omega)]; exact n5 r (by omega)
      · dsimp only at hb ⊢
        rw [y11 (12 + b) (by omega)]; exact n6 b hb
      · dsimp only at hr ⊢
        by_cases q : r = R
        · rw [q, upf_s]; exact ⟨o4, y6, y7, y8⟩
        · rw [upf_n q, y9 (143 + 22 * r) (by omega) (by omega), y9 (144 + 22 * r) (by omega) (by omega)]
          have := q20 (rI r)
          exact ⟨(d2 r (by omega)).1, (d2 r (by omega)).2.1, (d2 r (by omega)).2.2.1, fun p hp => by rw [y9 (145 + 22 * r + p) (by omega) (by omega)]; exact (d2 r (by omega)).2.2.2 p hp⟩
      · dsimp only at hb ⊢
        rw [y9 (231 + 11 * b) (by omega) (by omega)]
        exact ⟨(d3 b hb).1, fun p hp => by rw [y9 (232 + 11 * b + p) (by omega) (by omega)]; exact (d3 b hb).2 p hp⟩
      · dsimp only
        rw [y9 142 (by omega) (by omega), x1.2.1 12 (by decide) (by decide)]
        rcases d4 with d4 | ⟨e1, e2, e3, e4, e5⟩
        · exact Or.inl d4
        · exact Or.inr ⟨e1, e2, e3, mcd_congr C (fun j _ => by rw [x1.1 376 (by decide) (by decide) (by decide)]) e4, by rw [x1.1 376 (by decide) (by decide) (by decide)]; exact e5⟩
  · rw [if_neg c0]
    refine ⟨fun _ => (m_isWord (d := d + 32) (k := 1) h (by decide) h8).use ?_, fun x => absurd rfl x⟩
    by_cases c1 : cT t L i = 128 + ((1 : Nat) : Int)
    · rw [if_pos c1]
      refine ⟨fun x => absurd x (by decide), fun _ => ?_⟩
      have es : ixS t L (i, R, B, w, C, rI, bI) = (bdF R B rI bI t L i, (bdE t L i + 1, R, B + 1, w, C, rI, upf bI B i)) := by
        unfold ixS
        dsimp only
        rw [if_neg (by omega), if_pos (by omega)]
      refine Mv.use (m_readBraid (d := d + 28) hL hP h h8 hg d1) ?_
      rintro X ⟨x1, x2⟩
      refine ⟨rfl, x1.fi, ?_⟩
      rw [es]
      rcases x2 with ⟨y1, y2, y3⟩ | ⟨y1, y2, y3, y4, y5, y6, y7, y8, y9, y10⟩
      · exact Or.inl ⟨y1, y2, y3⟩
      · have gl : gT t L (i + 2 + (bdQ t L i - 1)) = 3 := ((bq_at (t := t) (L := L) (b := i + 2) 10 0 rfl (fun k hk => by omega)).2 (bdQ t L i - 1) (by have : bqR t L (i + 2) 10 0 = bdQ t L i := rfl; omega)).1
        have le := tk_nx hP (gT_lt hP (i := i + 2 + (bdQ t L i - 1)) (by omega)) (by omega)
        have eE : bdE t L i = i + 2 + (bdQ t L i - 1) + 1 := by unfold bdE; omega
        refine Or.inr ⟨y1, bdE t L i, x1.rs h y2 (by omega), rfl, y4, fun c59 => ?_⟩
        have f0 : bdF R B rI bI t L i = 0 := by rw [y4, if_pos c59]
        obtain ⟨o1, o2, o3, o4⟩ := bd_ok f0
        refine ⟨⟨by rw [y8 140 (by omega) (by omega) (by omega)]; exact n1, y5, n3, by dsimp only; omega, fun r hr => ?_, fun b hb => ?_⟩, fun r hr => ?_, fun b hb => ?_, ?_⟩
        · dsimp only at hr ⊢
          rw [y10 (8 + r) (by omega)]; exact n5 r hr
        · dsimp only at hb ⊢
          by_cases q : b = B
          · rw [q, upf_s]; exact y9
          · rw [upf_n q, y10 (12 + b) (by omega)]; exact n6 b (by omega)
        · dsimp only at hr ⊢
          rw [y8 (143 + 22 * r) (by omega) (by omega) (by omega), y8 (144 + 22 * r) (by omega) (by omega) (by omega)]
          have := q20 (rI r)
          exact ⟨(d2 r hr).1, (d2 r hr).2.1, (d2 r hr).2.2.1, fun p hp => by rw [y8 (145 + 22 * r + p) (by omega) (by omega) (by omega)]; exact (d2 r hr).2.2.2 p hp⟩
        · dsimp only at hb ⊢
          by_cases q : b = B
          · rw [q, upf_s]; exact ⟨y6, y7⟩
          · have := q10 (bI b)
            rw [upf_n q, y8 (231 + 11 * b) (by omega) (by omega) (by omega)]
            exact ⟨(d3 b (by omega)).1, fun p hp => by rw [y8 (232 + 11 * b + p) (by omega) (by omega) (by omega)]; exact (d3 b (by omega)).2 p hp⟩
        · dsimp only
          rw [y8 142 (by omega) (by omega) (by omega), x1.2.1 12 (by decide) (by decide)]
          rcases d4 with d4 | ⟨e1, e2, e3, e4, e5⟩
          · exact Or.inl d4
          · exact Or.inr ⟨e1, e2, e3, mcd_congr C (fun j _ => by rw [x1.1 376 (by decide) (by decide) (by decide)]) e4, by rw [x1.1 376 (by decide) (by decide) (by decide)]; exact e5⟩
    · rw [if_neg c1]
      refine ⟨fun _ => (m_isWord (d := d + 32) (k := 2) h (by decide) h8).use ?_, fun x => absurd rfl x⟩
      have e142 : (w32 (140 + 2)).toNat = 142 := by decide
      by_cases c2 : cT t L i = 128 + ((2 : Nat) : Int)
      · rw [if_pos c2]
        refine ⟨fun _ => ⟨by decide, ?_⟩, fun x => absurd x (by decide)⟩
        have es : ixS t L (i, R, B, w, C, rI, bI) = (if w = 0 then (if (YR t L (i + 1) true [] []).1 = -1 then 0 else (YR t L (i + 1) true [] []).1) else ftT t L i 3, ((YR t L (i + 1) true [] []).2.1 + 1, R, B, 1, (YR t L (i + 1) true [] []).2.2, rI, bI)) := by
          unfold ixS
          dsimp only
          rw [if_neg (by omega), if_neg (by omega), if_pos (by omega)]
        rw [e142]
        refine ⟨fun q => ?_, fun q => ⟨fun x => absurd h8 x, fun _ => ?_⟩⟩
        · -- a law
          have w0 : w = 0 ∧ V 369 12 = 0 := by
            rcases d4 with ⟨e1, _, e3, _⟩ | ⟨_, e2, _⟩
            · exact ⟨e1, e3⟩
            · omega
          rw [if_pos w0.1] at es
          rw [a1, w32_s (i := i) (by omega), upm_k (show (12 : Nat) ≠ 7 by decide), w0.2]
          generalize hA : upm (upm V 369 7 ((i + 1 : Nat) : Int)) 375 142 0 = A
          have A7 : A 369 7 = ((i + 1 : Nat) : Int) := by rw [← hA, upm_off 369 (by decide), upm_s]
          have A9 : ∀ j, j ≠ 7 → A 369 j = V 369 j := fun j p => by rw [← hA, upm_off 369 (by decide), upm_k p]
          have AC : ∀ c, c ≠ 369 → c ≠ 375 → A c = V c := fun c p1 p2 => by rw [← hA, upm_off c p2, upm_off c p1]
          have A5 : ∀ j, j ≠ 142 → A 375 j = V 375 j := fun j p => by rw [← hA, upm_k p, upm_off 375 (by decide)]
          have A2 : A 375 142 = 0 := by rw [← hA, upm_s]
          clear hA
          have AF : MFi V A := ⟨fun c p1 p2 _ _ => AC c p1 p2, fun j p1 _ _ => A9 j p1, fun j p => A5 j (by omega), fun j _ => by rw [AC 377 (by decide) (by decide)], fun j _ => by rw [AC 376 (by decide) (by decide)]⟩
          have As : RS A t L N (i + 1) := h.mov A7 hi1 (AC 371 (by decide) (by decide)) (AC 372 (by decide) (by decide)) (AC 373 (by decide) (by decide)) (AC 374 (by decide) (by decide))
          have hlaw : LCt K (d + 32) mX12_allOf 1 0 t L N := (m_laws (K := K) hL hP 5 0 rfl d).2
          refine Mv.use (hlaw (i + 1) 0 A As (by rw [A9 8 (by decide)]; exact h8) (by rw [A9 12 (by decide)]; exact w0.2) (by omega)) ?_
          rintro X (⟨i', Q, x1, x2, x3, x4, x5, x6, x7⟩ | ⟨x1, ⟨j, c', j1, j2, j3, j4, j5, j6⟩, x3, x4⟩)
          · have xi := x2.2.1
            obtain ⟨C1, S1, e1, e2, e3⟩ := x7 [] [] rfl ⟨by decide, trivial⟩
            rw [List.append_nil] at e2
            rw [Nat.zero_add] at x4
            have ez : w32 (0 + w32 (16 * 0)) = 0 := by decide
            rw [ez]
            refine ⟨em_b x4 (by omega), rfl, ?_⟩
            rw [em_eq x4 (by omega)]
            have yF : MFi V (emt X Q.length 0) := (AF.trans x1.fi).trans (MLf.eml).fi
            refine ⟨yF, Or.inr ⟨by rw [emt_8]; exact x3, i', emt_rs x2, ?_⟩⟩
            have ew : MFi X (emt X Q.length 0) := (MLf.eml (c := Q.length)).fi
            by_cases c59 : cT t L i' = 59
            · have yy : yd t L i' false C1 S1 = (-1, false, Q, []) := by
                unfold yd
                rw [if_neg (by decide), if_pos c59, e2]
                exact if_pos rfl
              have eY : YR t L (i + 1) true [] [] = (-1, i', Q) := by rw [e1]; exact YR_stop (by omega) yy (by decide)
              rw [es, eY]
              refine ⟨rfl, by rw [if_pos c59]; rfl, fun _ => ⟨⟨?_, ?_, n3, n4, fun r hr => ?_, fun b hb => ?_⟩, fun r hr => ?_, fun b hb => ?_, Or.inr ⟨rfl, ?_, ⟨emt_12, by dsimp only; omega⟩, ?_, ?_⟩⟩⟩
              · unfold emt; rw [upm_off 375 (by decide), upm_off 375 (by decide), x1.1 375 (by decide) (by decide), A5 140 (by decide)]; exact n1
              · unfold emt; rw [upm_off 375 (by decide), upm_off 375 (by decide), x1.1 375 (by decide) (by decide), A5 141 (by decide)]; exact n2
              · unfold emt; rw [upm_off 377 (by decide), upm_off 377 (by decide), x1.1 377 (by decide) (by decide), AC 377 (by decide) (by decide)]; exact n5 r hr
              · unfold emt; rw [upm_off 377 (by decide), upm_off 377 (by decide), x1.1 377 (by decide) (by decide), AC 377 (by decide) (by decide)]; exact n6 b hb
              · dsimp only at hr ⊢
                unfold emt
                rw [upm_off 375 (by decide), upm_off 375 (by decide), x1.1 375 (by decide) (by decide), A5 (143 + 22 * r) (by omega), A5 (144 + 22 * r) (by omega)]
                exact ⟨(d2 r hr).1, (d2 r hr).2.1, (d2 r hr).2.2.1, fun p hp => by rw [A5 _ (by omega)]; exact (d2 r hr).2.2.2 p hp⟩
              · dsimp only at hb ⊢
                unfold emt
                rw [upm_off 375 (by decide), upm_off 375 (by decide), x1.1 375 (by decide) (by decide), A5 (231 + 11 * b) (by omega)]
                exact ⟨(d3 b hb).1, fun p hp => by rw [A5 _ (by omega)]; exact (d3 b hb).2 p hp⟩
              · unfold emt; rw [upm_off 375 (by decide), upm_off 375 (by decide), x1.1 375 (by decide) (by decide)]; exact A2
              · exact mcd_congr (V := X) Q (fun j hj => (MLf.eml (V := X) (c := Q.length)).2.2 j hj) x5
              · exact emt_c
            · have yf : yd t L i' false C1 S1 = (ftT t L i' 1, false, C1, S1) := by
                unfold yd
                rw [if_neg (by decide), if_neg c59]
                by_cases q41 : cT t L i' = 41
                · rw [if_pos q41, e2]
                  exact if_pos rfl
                · rw [if_neg q41]
                  rcases e3 with e3 | ⟨_, e3, e4⟩
                  · rw [if_pos (by omega)]
                  · rw [if_neg (by omega), if_pos e3, if_pos e4]
              have eY : YR t L (i + 1) true [] [] = (ftT t L i' 1, i', C1) := by rw [e1]; exact YR_stop (by omega) yf (ft_nz (by omega))
              have hp := ft_pos (t := t) (L := L) (i := i') (w := 1) (by omega)
              rw [es, eY]
              refine ⟨rfl, ?_, fun x => absurd x c59⟩
              rw [if_neg c59, if_neg (by dsimp only; omega)]
          · refine ⟨em_b j3 (by omega), rfl, ?_⟩
            rw [em_eq j3 (by omega)]
            have yF : MFi V (emt X c' (w32 (0 + w32 (16 * 0)))) := (AF.trans x1.fi).trans (MLf.eml).fi
            have e1 := x4 [] [] rfl ⟨by decide, trivial⟩
            refine ⟨yF, Or.inl ⟨by rw [emt_8]; exact x3, ?_, j, by rw [emt_7]; exact j1, by omega⟩⟩
            rw [es, emt_8, if_neg (by omega)]
            exact e1
        · have w1 : ¬ w = 0 := by
            rcases d4 with ⟨e1, e2, _⟩ | ⟨e1, _⟩
            · omega
            · omega
          rw [if_neg w1] at es
          rw [a1, tn, b1, ftT_w hL (by omega)]
          refine ⟨⟨by omega, by omega⟩, rfl, MFr.at8.fi, Or.inl ⟨by rw [upm_s]; exact ft_pos (by omega), by rw [es, upm_s], i, by rw [upm_k (by decide)]; exact a1, by omega⟩⟩
      · rw [if_neg c2]
        have es : ixS t L (i, R, B, w, C, rI, bI) = (ftT t L i 1, (i, R, B, w, C, rI, bI)) := by
          unfold ixS
          dsimp only
          rw [if_neg (by omega), if_neg (by omega), if_neg (by omega)]
        refine ⟨fun x => absurd rfl x, fun _ => ⟨fun x => absurd h8 x, fun _ => ?_⟩⟩
        rw [a1, tn, b1, ftT_w hL (by omega)]
        refine ⟨⟨by omega, by omega⟩, rfl, MFr.at8.fi, Or.inl ⟨by rw [upm_s]; exact ft_pos (by omega), by rw [es, upm_s], i, by rw [upm_k (by decide)]; exact a1, by omega⟩⟩
end MIX
