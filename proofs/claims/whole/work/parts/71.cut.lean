/-! ===== the reference's tokens ===== -/
def bpT (t : Nat → Int) (L : Nat) : Nat → Nat
  | 0 => 0
  | i + 1 => tkE t L (rnK isBb t L (bpT t L i))
/-- where the token i is -/
def psT (t : Nat → Int) (L i : Nat) : Nat := rnK isBb t L (bpT t L i)
def rso (g : Nat) : Int := if g = 0 then 0 else if g = 2 then 1 else if g = 3 then 2 else if g = 4 then 3 else 4
def RT (V : Mem) (t : Nat → Int) (L i : Nat) : Prop := V 372 i = (psT t L i : Nat) ∧ V 371 i = rso (tkG t L (psT t L i)) ∧ (tkG t L (psT t L i) = 2 → V 373 i = tkW 37 t L (psT t L i)) ∧ (tkG t L (psT t L i) = 3 → V 373 i = tkN t L (psT t L i)) ∧ (tkG t L (psT t L i) = 4 → V 373 i = t (psT t L i))
theorem tkE_b {t : Nat → Int} {L p : Nat} (h : p < L) : p < tkE t L p ∧ tkE t L p ≤ L := by
  unfold tkE
  rw [if_neg (by omega)]
  by_cases c : isLb (t p) = true
  · rw [if_pos c, rnK_go h c]
    have := rnK_b (P := isLb) (t := t) (show p + 1 ≤ L by omega)
    exact ⟨by omega, this.2.1⟩
  · rw [if_neg c]
    by_cases c2 : isDb (t p) = true
    · rw [if_pos c2, rnK_go h c2]
      have := rnK_b (P := isDb) (t := t) (show p + 1 ≤ L by omega)
      exact ⟨by omega, this.2.1⟩
    · rw [if_neg c2]
      exact ⟨by omega, by omega⟩
theorem RT.congr {V V' : Mem} {t : Nat → Int} {L i : Nat} (h : RT V t L i) (h1 : V' 371 i = V 371 i) (h2 : V' 372 i = V 372 i) (h3 : V' 373 i = V 373 i) : RT V' t L i := by
  unfold RT
  rw [h1, h2, h3]
  exact h
theorem pw37 {l : Nat} (h : l ≤ 8) : (37 : Int) ^ l ≤ 3512479453921 := by
  have e : l = 0 ∨ l = 1 ∨ l = 2 ∨ l = 3 ∨ l = 4 ∨ l = 5 ∨ l = 6 ∨ l = 7 ∨ l = 8 := by omega
  rcases e with rfl | rfl | rfl | rfl | rfl | rfl | rfl | rfl | rfl <;> decide
theorem pk37_s {t : Nat → Int} {p q : Nat} (hq : p ≤ q) (h8 : q < p + 8) (h : ∀ i, i < q - p → 97 ≤ t (p + i) ∧ t (p + i) ≤ 122) (hc : 97 ≤ t q ∧ t q ≤ 122) : w64 (w64 (37 * pkw 37 (fun i => t (p + i) - 96) (q - p)) + w32 (t q - 96)) = pkw 37 (fun i => t (p + i) - 96) (q + 1 - p) := by
  have h1 := pkw_r (b := 37) (c := fun i => t (p + i) - 96) (lo := 1) (hi := 26) (by omega) (by omega) (by omega) (q - p) (fun i hi => by
      have := h i (by omega)
      show 1 ≤ t (p + i) - 96 ∧ t (p + i) - 96 ≤ 26
      omega)
  have h2 := pw37 (show q - p ≤ 8 by omega)
  rw [show q + 1 - p = (q - p) + 1 by omega]
  show _ = pkw 37 (fun i => t (p + i) - 96) (q - p) * 37 + (t (p + (q - p)) - 96)
  rw [show p + (q - p) = q by omega]
  generalize pkw 37 (fun i => t (p + i) - 96) (q - p) = z at *
  generalize (37 : Int) ^ (q - p) = y at *
  rw [w64_id (x := 37 * z) (by omega) (by omega), w32_id (by omega) (by omega), w64_id (by omega) (by omega)]
  omega
theorem pk10_s {t : Nat → Int} {p q : Nat} (hq : p ≤ q) (h8 : q < p + 4) (h : ∀ i, i < q - p → 48 ≤ t (p + i) ∧ t (p + i) ≤ 57) (hc : 48 ≤ t q ∧ t q ≤ 57) : w64 (w64 (w64 (10 * pkw 10 (fun i => t (p + i) - 48) (q - p)) + t q) - 48) = pkw 10 (fun i => t (p + i) - 48) (q + 1 - p) := by
  have h1 := pkw_r (b := 10) (c := fun i => t (p + i) - 48) (lo := 0) (hi := 9) (by omega) (by omega) (by omega) (q - p) (fun i hi => by
      have := h i (by omega)
      show 0 ≤ t (p + i) - 48 ∧ t (p + i) - 48 ≤ 9
      omega)
  have h2 := pw10 (show q - p ≤ 4 by omega)
  rw [show q + 1 - p = (q - p) + 1 by omega]
  show _ = pkw 10 (fun i => t (p + i) - 48) (q - p) * 10 + (t (p + (q - p)) - 48)
  rw [show p + (q - p) = q by omega]
  generalize pkw 10 (fun i => t (p + i) - 48) (q - p) = z at *
  generalize (10 : Int) ^ (q - p) = y at *
  rw [w64_id (x := 10 * z) (by omega) (by omega), w64_id (x := 10 * z + t q) (by omega) (by omega), w64_id (by omega) (by omega)]
  omega
section CUT
variable {K : KK} {d : Nat} {V : Mem}
theorem m_isLetter (x : Int) : Pu K d mX12_isLetter [vI x] V (if isLb x = true then 1 else 0) := by
  refine sX12_isLetter x ⟨fun c => ⟨_, rfl, ?_, rfl⟩, fun c => ⟨fun c2 => ⟨_, rfl, ?_, rfl⟩, fun c2 => ⟨_, rfl, ?_, rfl⟩⟩⟩
  · rw [if_neg (fun q => by have := of_decide_eq_true q; omega)]
  · rw [if_neg (fun q => by have := of_decide_eq_true q; omega)]
  · rw [if_pos (show isLb x = true from decide_eq_true ⟨by omega, by omega⟩)]
theorem m_isDigit (x : Int) : Pu K d mX12_isDigit [vI x] V (if isDb x = true then 1 else 0) := by
  refine sX12_isDigit x ⟨fun c => ⟨_, rfl, ?_, rfl⟩, fun c => ⟨fun c2 => ⟨_, rfl, ?_, rfl⟩, fun c2 => ⟨_, rfl, ?_, rfl⟩⟩⟩
  · rw [if_neg (fun q => by have := of_decide_eq_true q; omega)]
  · rw [if_neg (fun q => by have := of_decide_eq_true q; omega)]
  · rw [if_pos (show isDb x = true from decide_eq_true ⟨by omega, by omega⟩)]
theorem m_rankL {x : Int} (h : isLb x = true) : Pu K (d + 1) mX12_rank [vI x] V (w32 (x - 96)) := by
  refine sX12_rank x ((m_isLetter (d := d) x).use ?_)
  rw [if_pos h]
  exact ⟨fun q => absurd q (by decide), fun _ => ⟨_, rfl, rfl, rfl⟩⟩
theorem m_isSignOf (x : Int) : Pu K d mX12_isSignOf [vI x] V (if isSb x = true then 1 else 0) := by
  have yes : (x = 40 ∨ x = 41 ∨ x = 42 ∨ x = 43 ∨ x = 45 ∨ x = 59 ∨ x = 60 ∨ x = 61) → ∃ z : Int, some (vI 1) = some (vI z) ∧ z = (if isSb x = true then 1 else 0) ∧ V = V := fun q => ⟨1, rfl, by rw [if_pos (show isSb x = true from decide_eq_true q)], rfl⟩
  refine sX12_isSignOf x ⟨fun c => yes (by omega), fun c => ⟨fun c => yes (by omega), fun c => ⟨fun c => yes (by omega), fun c => ⟨fun c => yes (by omega), fun c => ⟨fun c => yes (by omega), fun c => ⟨fun c => yes (by omega), fun c => ⟨fun c => yes (by omega), fun c => ⟨fun c => ⟨_, rfl, ?_, rfl⟩, fun c => yes (by omega)⟩⟩⟩⟩⟩⟩⟩⟩
  rw [if_neg (fun q => by have := of_decide_eq_true q; omega)]
/-- the tape is cut into N tokens and the end -/
def Cut (V V' : Mem) (t : Nat → Int) (L N : Nat) : Prop := (∀ c, c ≠ 369 → c ≠ 371 → c ≠ 372 → c ≠ 373 → V' c = V c) ∧ (∀ j, j ≠ 2 → j ≠ 3 → j ≠ 7 → j ≠ 8 → V' 369 j = V 369 j) ∧ V' 369 2 = 0 ∧ V' 369 7 = 0 ∧ V' 369 8 = 0 ∧ N ≤ L ∧ (∀ i, i < N → psT t L i < L) ∧ psT t L N = L ∧ ∀ i, i ≤ N → RT V' t L i
theorem m_cutAll {t : Nat → Int} {L : Nat} (h2 : V 369 2 = L) (hL : L ≤ 1000) (ht : ∀ i, i < L → V 370 i = t i) : Mv K (d + 3) mX12_cutAll [vR 369] V (fun V' => ∃ N, Cut V V' t L N) := by
  have stop : ∀ k n : Nat, k = L → n ≤ k → rnK isBb t L k = psT t L n → (∀ i, i < n → psT t L i < L) → ∀ W : Mem, (∀ c, c ≠ 369 → c ≠ 371 → c ≠ 372 → c ≠ 373 → W c = V c) → (∀ j, j ≠ 2 → j ≠ 3 → W 369 j = V 369 j) → W 369 2 = 0 → W 369 3 = (L : Int) → (∀ i, i < n → RT W t L i) → Wf K (d + 3) mX12_cutAll 17 [some (vR 369), some (vI (n : Int)), some (vI (k : Int)), none, none, none, none] [] W (fun r V' => r = none ∧ ∃ N, Cut V V' t L N) := by
    intro k n ek hn hps hlt W g1 g2 g3 g4 g5
    subst ek
    have es : psT t k n = k := by rw [← hps]; exact rnK_st (by omega)
    refine sX12_cutAll_17 _ _ ⟨fun _ => ⟨⟨by omega, by omega⟩, ⟨by omega, by omega⟩, rfl, n, ?_⟩, fun c => absurd (by rw [g4]; exact Int.le_refl _) c⟩
    rw [tn, upm_a (b := 369) (by decide), g4]
    refine ⟨fun c q1 q2 q3 q4 => by rw [upm_off c q1, upm_off c q1, upm_off c q3, upm_off c q2]; exact g1 c q1 q2 q3 q4, fun j q1 q2 q3 q4 => by rw [upm_k q4, upm_k q3, upm_off 369 (by decide), upm_off 369 (by decide)]; exact g2 j q1 q2, by rw [upm_k (by decide), upm_k (by decide), upm_off 369 (by decide), upm_off 369 (by decide)]; exact g3, by rw [upm_k (by decide), upm_s], upm_s _ _ _ _, by omega, hlt, es, fun i hi => ?_⟩
    by_cases e : i = n
    · have eG : tkG t k (psT t k i) = 0 := by rw [e, es]; exact if_pos (Nat.le_refl _)
      refine ⟨?_, ?_, fun q => by omega, fun q => by omega, fun q => by omega⟩
      · rw [upm_off 372 (by decide), upm_off 372 (by decide), e, upm_s, es]
      · rw [upm_off 371 (by decide), upm_off 371 (by decide), upm_off 371 (by decide), eG, e, upm_s]; rfl
    · refine (g5 i (by omega)).congr ?_ ?_ ?_
      · rw [upm_off 371 (by decide), upm_off 371 (by decide), upm_off 371 (by decide), upm_k e]
      · rw [upm_off 372 (by decide), upm_off 372 (by decide), upm_k e, upm_off 372 (by decide)]
      · rw [upm_off 373 (by decide), upm_off 373 (by decide), upm_off 373 (by decide), upm_off 373 (by decide)]
  have wqA : ∀ f k n : Nat, L - k ≤ f → k ≤ L → n ≤ k → rnK isBb t L k = psT t L n → (∀ i, i < n → psT t L i < L) → ∀ W : Mem, (∀ c, c ≠ 369 → c ≠ 371 → c ≠ 372 → c ≠ 373 → W c = V c) → (∀ j, j ≠ 2 → j ≠ 3 → W 369 j = V 369 j) → W 369 2 = 0 → W 369 3 = (L : Int) → (∀ i, i < n → RT W t L i) → Wf K (d + 3) mX12_cutAll 17 [some (vR 369), some (vI (n : Int)), some (vI (k : Int)), none, none, none, none] [] W (fun r V' => r = none ∧ ∃ N, Cut V V' t L N) := by
    intro f
    induction f with
    | zero => exact fun k n hf hk hn hps hlt W g1 g2 g3 g4 g5 => stop k n (by omega) hn hps hlt W g1 g2 g3 g4 g5
    | succ f ih =>
      intro k n hf hk hn hps hlt W g1 g2 g3 g4 g5
      by_cases ck : k < L
      · have hv : W 370 k = t k := by rw [g1 370 (by decide) (by decide) (by decide) (by decide)]; exact ht k ck
        refine sX12_cutAll_17 _ _ ⟨fun c => absurd c (by rw [g4]; omega), fun _ => ⟨⟨by omega, by omega⟩, ?_⟩⟩
        rw [tn, hv]
        have skip : isBb (t k) = true → Wf K (d + 3) mX12_cutAll 44 [some (vR 369), some (vI (n : Int)), some (vI (k : Int)), none, none, none, none] [] W (fun r V' => r = none ∧ ∃ N, Cut V V' t L N) := fun b => by
          refine sX12_cutAll_44 _ _ ?_
          rw [w32_s (i := k) (by omega)]
          exact ih (k + 1) n (by omega) (by omega) (by omega) (by rw [← hps]; exact (rnK_go ck b).symm) hlt W g1 g2 g3 g4 g5
        refine ⟨fun b => skip (show isBb (t k) = true from decide_eq_true (Or.inr b)), fun b => ⟨fun b2 => ⟨⟨by omega, by omega⟩, ?_⟩, fun b2 => skip (show isBb (t k) = true from decide_eq_true (Or.inl b2))⟩⟩
        clear skip
        have ep : psT t L n = k := by rw [← hps]; exact rnK_st (fun q => by have := of_decide_eq_true q.2; omega)
        obtain ⟨tb1, tb2⟩ := tkE_b (t := t) ck
        have cn : ¬ L ≤ k := by omega
        rw [tn]
        -- behind the token
        have nxt : ∀ s v : Int, s = rso (tkG t L k) → (tkG t L k = 2 → v = tkW 37 t L k) → (tkG t L k = 3 → v = tkN t L k) → (tkG t L k = 4 → v = t k) → Wf K (d + 3) mX12_cutAll 265 [some (vR 369), some (vI (n : Int)), some (vI (tkE t L k : Nat)), none, none, some (vJ v), none] [] (upm (upm W 372 n (k : Int)) 371 n s) (fun r V' => r = none ∧ ∃ N, Cut V V' t L N) := by
          intro s v e1 e2 e3 e4
          refine sX12_cutAll_265 _ _ _ ⟨⟨by omega, by omega⟩, ?_⟩
          rw [tn, w32_s (i := n) (by omega)]
          refine ih (tkE t L k) (n + 1) (by omega) tb2 (by omega) ?_ ?_ _ (fun c q1 q2 q3 q4 => by rw [upm_off c q4, upm_off c q2, upm_off c q3]; exact g1 c q1 q2 q3 q4) (fun j q1 q2 => by rw [upm_off 369 (by decide), upm_off 369 (by decide), upm_off 369 (by decide)]; exact g2 j q1 q2) (by rw [upm_off 369 (by decide), upm_off 369 (by decide), upm_off 369 (by decide)]; exact g3) (by rw [upm_off 369 (by decide), upm_off 369 (by decide), upm_off 369 (by decide)]; exact g4) ?_
          · show _ = rnK isBb t L (tkE t L (psT t L n))
            rw [ep]
          · intro i hi
            by_cases e : i = n
            · rw [e, ep]; exact ck
            · exact hlt i (by omega)
          · intro i hi
            by_cases e : i = n
            · unfold RT
              rw [e, ep, upm_s, upm_off 372 (by decide), upm_off 372 (by decide), upm_s, upm_off 371 (by decide), upm_s]
              exact ⟨rfl, e1, e2, e3, e4⟩
            · refine (g5 i (by omega)).congr ?_ ?_ ?_
              · rw [upm_off 371 (by decide), upm_k e, upm_off 371 (by decide)]
              · rw [upm_off 372 (by decide), upm_off 372 (by decide), upm_k e]
              · rw [upm_k e, upm_off 373 (by decide), upm_off 373 (by decide)]
        generalize hU : upm W 372 n (k : Int) = U at *
        have u3 : U 369 3 = (L : Int) := by rw [← hU, upm_off 369 (by decide)]; exact g4
        have ut : ∀ i, i < L → U 370 i = t i := fun i hi => by rw [← hU, upm_off 370 (by decide), g1 370 (by decide) (by decide) (by decide) (by decide)]; exact ht i hi
        refine (m_isLetter (d := d + 2) (t k)).use ?_
        by_cases b3 : isLb (t k) = true
        · rw [if_pos b3]
          refine ⟨fun q => absurd q (by decide), fun _ => ?_⟩
          have eE : tkE t L k = rnK isLb t L k := by unfold tkE; rw [if_neg cn, if_pos b3]
          obtain ⟨r1, r2, r3⟩ := rnK_b (P := isLb) (t := t) hk
          have hlet : ∀ i, i < rnK isLb t L k - k → 97 ≤ t (k + i) ∧ t (k + i) ≤ 122 := fun i hi => of_decide_eq_true (r3 (k + i) (by omega) (by omega))
          have fin : ∀ v : Int, (rnK isLb t L k ≤ k + 8 → v = tkW 37 t L k) → Wf K (d + 3) mX12_cutAll 129 [some (vR 369), some (vI (n : Int)), some (vI (rnK isLb t L k : Nat)), none, some (vI (k : Int)), some (vJ v), none] [] U (fun r V' => r = none ∧ ∃ N, Cut V V' t L N) := by
            intro v hv
            rw [eE] at nxt
            refine sX12_cutAll_129 _ _ _ _ ?_
            rw [w32_id (x := ((rnK isLb t L k : Nat) : Int) - (k : Int)) (by omega) (by omega)]
            refine ⟨fun c => ?_, fun c => ?_⟩
            · have eG : tkG t L k = 2 := by unfold tkG; rw [if_neg cn, if_pos b3, if_pos (by omega)]
              refine sX12_cutAll_148 _ _ _ _ _ ⟨⟨by omega, by omega⟩, ?_⟩
              rw [tn]
              exact nxt 1 v (by rw [eG]; rfl) (fun _ => hv (by omega)) (fun q => by omega) (fun q => by omega)
            · have eG : tkG t L k = 1 := by unfold tkG; rw [if_neg cn, if_pos b3, if_neg (by omega)]
              refine sX12_cutAll_148 _ _ _ _ _ ⟨⟨by omega, by omega⟩, ?_⟩
              rw [tn]
              exact nxt 4 v (by rw [eG]; rfl) (fun q => by omega) (fun q => by omega) (fun q => by omega)
          have wqB : ∀ q, q ≤ L → k ≤ q → rnK isLb t L q = rnK isLb t L k → ∀ v : Int, (q ≤ k + 8 → v = pkw 37 (fun i => t (k + i) - 96) (q - k)) → Wf K (d + 3) mX12_cutAll 70 [some (vR 369), some (vI (n : Int)), some (vI (q : Int)), none, some (vI (k : Int)), some (vJ v), none] [] U (fun r V' => r = none ∧ ∃ N, Cut V V' t L N) := by
            refine up_ind ?_ ?_
            · intro hl he v hv
              have ee : rnK isLb t L L = L := rnK_st (by omega)
              rw [ee] at he
              refine sX12_cutAll_70 _ _ _ _ ⟨fun _ => ?_, fun c => absurd (by rw [u3]; exact Int.le_refl _) c⟩
              have := fin v (fun q => by unfold tkW; rw [← he]; exact hv (by omega))
              rw [← he] at this
              exact this
            · intro q hq ihq hl he v hv
              have er := rnK_b (P := isLb) (t := t) (show q ≤ L by omega)
              refine sX12_cutAll_70 _ _ _ _ ⟨fun c => absurd c (by rw [u3]; omega), fun _ => ⟨⟨by omega, by omega⟩, ?_⟩⟩
              rw [tn, ut q hq]
              refine (m_isLetter (d := d + 2) (t q)).use ?_
              by_cases b : isLb (t q) = true
              · rw [if_pos b, w32_id (x := (q : Int) - (k : Int)) (by omega) (by omega)]
                have hc : 97 ≤ t q ∧ t q ≤ 122 := of_decide_eq_true b
                refine ⟨fun q => absurd q (by decide), fun _ => ⟨fun c => ?_, fun c => ⟨⟨by omega, by omega⟩, ?_⟩⟩⟩
                · refine sX12_cutAll_121 _ _ _ _ ?_
                  rw [w32_s (i := q) (by omega)]
                  exact ihq (by omega) (by rw [← he]; exact (rnK_go hq b).symm) v (fun x => by omega)
                · rw [ut q hq]
                  refine (m_rankL (d := d + 1) b).use ?_
                  refine sX12_cutAll_121 _ _ _ _ ?_
                  rw [w32_s (i := q) (by omega), hv (by omega), pk37_s hl (by omega) (fun i hi => hlet i (by omega)) hc]
                  exact ihq (by omega) (by rw [← he]; exact (rnK_go hq b).symm) _ (fun x => rfl)
              · rw [if_neg b]
                refine ⟨fun _ => ?_, fun q => absurd rfl q⟩
                rw [rnK_st (fun x => b x.2)] at he
                have := fin v (fun x => by unfold tkW; rw [← he]; exact hv (by omega))
                rw [← he] at this
                exact this
          exact wqB k hk (Nat.le_refl _) rfl 0 (fun _ => by rw [Nat.sub_self]; rfl)
        · rw [if_neg b3]
          refine ⟨fun _ => (m_isDigit (d := d + 2) (t k)).use ?_, fun q => absurd rfl q⟩
          by_cases b4 : isDb (t k) = true
          · rw [if_pos b4]
            refine ⟨fun q => absurd q (by decide), fun _ => ?_⟩
            have eE : tkE t L k = rnK isDb t L k := by unfold tkE; rw [if_neg cn, if_neg b3, if_pos b4]
            obtain ⟨r1, r2, r3⟩ := rnK_b (P := isDb) (t := t) hk
            have hlet : ∀ i, i < rnK isDb t L k - k → 48 ≤ t (k + i) ∧ t (k + i) ≤ 57 := fun i hi => of_decide_eq_true (r3 (k + i) (by omega) (by omega))
            have fin : ∀ v : Int, (rnK isDb t L k ≤ k + 4 → v = tkN t L k) → Wf K (d + 3) mX12_cutAll 218 [some (vR 369), some (vI (n : Int)), some (vI (rnK isDb t L k : Nat)), none, some (vI (k : Int)), some (vJ v), none] [] U (fun r V' => r = none ∧ ∃ N, Cut V V' t L N) := by
              intro v hv
              rw [eE] at nxt
              refine sX12_cutAll_218 _ _ _ _ ?_
              rw [w32_id (x := ((rnK isDb t L k : Nat) : Int) - (k : Int)) (by omega) (by omega)]
              refine ⟨fun c => ?_, fun c => ?_⟩
              · have eG : tkG t L k = 3 := by unfold tkG; rw [if_neg cn, if_neg b3, if_pos b4, if_pos (by omega)]
                refine sX12_cutAll_236 _ _ _ _ _ ⟨⟨by omega, by omega⟩, ?_⟩
                rw [tn]
                exact nxt 2 v (by rw [eG]; rfl) (fun q => by omega) (fun _ => hv (by omega)) (fun q => by omega)
              · have eG : tkG t L k = 1 := by unfold tkG; rw [if_neg cn, if_neg b3, if_pos b4, if_neg (by omega)]
                refine sX12_cutAll_236 _ _ _ _ _ ⟨⟨by omega, by omega⟩, ?_⟩
                rw [tn]
                exact nxt 4 v (by rw [eG]; rfl) (fun q => by omega) (fun q => by omega) (fun q => by omega)
            have wqB : ∀ q, q ≤ L → k ≤ q → rnK isDb t L q = rnK isDb t L k → ∀ v : Int, (q ≤ k + 4 → v = pkw 10 (fun i => t (k + i) - 48) (q - k)) → Wf K (d + 3) mX12_cutAll 159 [some (vR 369), some (vI (n : Int)), some (vI (q : Int)), none, some (vI (k : Int)), some (vJ v), none] [] U (fun r V' => r = none ∧ ∃ N, Cut V V' t L N) := by
              refine up_ind ?_ ?_
              · intro hl he v hv
                have ee : rnK isDb t L L = L := rnK_st (by omega)
                rw [ee] at he
                refine sX12_cutAll_159 _ _ _ _ ⟨fun _ => ?_, fun c => absurd (by rw [u3]; exact Int.le_refl _) c⟩
                have := fin v (fun q => by unfold tkN; rw [← he]; exact hv (by omega))
                rw [← he] at this
                exact this
              · intro q hq ihq hl he v hv
                have er := rnK_b (P := isDb) (t := t) (show q ≤ L by omega)
                refine sX12_cutAll_159 _ _ _ _ ⟨fun c => absurd c (by rw [u3]; omega), fun _ => ⟨⟨by omega, by omega⟩, ?_⟩⟩
                rw [tn, ut q hq]
                refine (m_isDigit (d := d + 2) (t q)).use ?_
                by_cases b : isDb (t q) = true
                · rw [if_pos b, w32_id (x := (q : Int) - (k : Int)) (by omega) (by omega)]
                  have hc : 48 ≤ t q ∧ t q ≤ 57 := of_decide_eq_true b
                  refine ⟨fun q => absurd q (by decide), fun _ => ⟨fun c => ?_, fun c => ⟨⟨by omega, by omega⟩, ?_⟩⟩⟩
                  · refine sX12_cutAll_210 _ _ _ _ ?_
                    rw [w32_s (i := q) (by omega)]
                    exact ihq (by omega) (by rw [← he]; exact (rnK_go hq b).symm) v (fun x => by omega)
                  · rw [ut q hq]
                    refine sX12_cutAll_210 _ _ _ _ ?_
                    rw [w32_s (i := q) (by omega), hv (by omega), pk10_s hl (by omega) (fun i hi => hlet i (by omega)) hc]
                    exact ihq (by omega) (by rw [← he]; exact (rnK_go hq b).symm) _ (fun x => rfl)
                · rw [if_neg b]
                  refine ⟨fun _ => ?_, fun q => absurd rfl q⟩
                  rw [rnK_st (fun x => b x.2)] at he
                  have := fin v (fun x => by unfold tkN; rw [← he]; exact hv (by omega))
                  rw [← he] at this
                  exact this
            exact wqB k hk (Nat.le_refl _) rfl 0 (fun _ => by rw [Nat.sub_self]; rfl)
          · rw [if_neg b4]
            refine ⟨fun _ => (m_isSignOf (d := d + 2) (t k)).use ?_, fun q => absurd rfl q⟩
            have eE : tkE t L k = k + 1 := by unfold tkE; rw [if_neg cn, if_neg b3, if_neg b4]
            rw [eE] at nxt
            by_cases b5 : isSb (t k) = true
            · have eG : tkG t L k = 4 := by unfold tkG; rw [if_neg cn, if_neg b3, if_neg b4, if_pos b5]
              rw [if_pos b5]
              refine ⟨fun q => absurd q (by decide), fun _ => sX12_cutAll_261 _ _ _ _ _ ⟨⟨by omega, by omega⟩, ?_⟩⟩
              rw [tn, w32_s (i := k) (by omega)]
              exact nxt 3 _ (by rw [eG]; rfl) (fun q => by omega) (fun q => by omega) (fun _ => rfl)
            · have eG : tkG t L k = 1 := by unfold tkG; rw [if_neg cn, if_neg b3, if_neg b4, if_neg b5]
              rw [if_neg b5]
              refine ⟨fun _ => sX12_cutAll_261 _ _ _ _ _ ⟨⟨by omega, by omega⟩, ?_⟩, fun q => absurd rfl q⟩
              rw [tn, w32_s (i := k) (by omega)]
              exact nxt 4 _ (by rw [eG]; rfl) (fun q => by omega) (fun q => by omega) (fun q => by omega)
      · exact stop k n (by omega) hn hps hlt W g1 g2 g3 g4 g5
  refine sX12_cutAll ?_
  rw [h2]
  exact wqA (L - 0) 0 0 (Nat.le_refl _) (Nat.zero_le _) (Nat.le_refl _) rfl (fun i hi => by omega) _ (fun c q1 q2 q3 q4 => by rw [upm_off c q1, upm_off c q1]) (fun j q1 q2 => by rw [upm_k q1, upm_k q2]) (upm_s _ _ _ _) (by rw [upm_k (by decide), upm_s]) (fun i hi => by omega)
end CUT
