/-! ===== shape: the tableau, both sides ===== -/
/-- one insertion, from row i on -/
def tns (kd : Int) : Nat → Nat → Int → (Nat → Nat) × (Nat → Nat → Int) → (Nat → Nat) × (Nat → Nat → Int)
  | 0, _, _, s => s
  | f + 1, i, v, s => if pgo kd v (s.2 i) 0 (s.1 i) = s.1 i then (fun a => if a = i then s.1 i + 1 else s.1 a, fun a b => if a = i ∧ b = pgo kd v (s.2 i) 0 (s.1 i) then v else s.2 a b) else tns kd f (i + 1) (s.2 i (pgo kd v (s.2 i) 0 (s.1 i))) (s.1, fun a b => if a = i ∧ b = pgo kd v (s.2 i) 0 (s.1 i) then v else s.2 a b)
theorem tns_t {kd v : Int} {f i : Nat} {s : (Nat → Nat) × (Nat → Nat → Int)} (h : pgo kd v (s.2 i) 0 (s.1 i) = s.1 i) : tns kd (f + 1) i v s = (fun a => if a = i then s.1 i + 1 else s.1 a, fun a b => if a = i ∧ b = pgo kd v (s.2 i) 0 (s.1 i) then v else s.2 a b) := if_pos h
theorem tns_f {kd v : Int} {f i : Nat} {s : (Nat → Nat) × (Nat → Nat → Int)} (h : ¬ pgo kd v (s.2 i) 0 (s.1 i) = s.1 i) : tns kd (f + 1) i v s = tns kd f (i + 1) (s.2 i (pgo kd v (s.2 i) 0 (s.1 i))) (s.1, fun a b => if a = i ∧ b = pgo kd v (s.2 i) 0 (s.1 i) then v else s.2 a b) := if_neg h
def tst (kd : Int) (W : Nat → Int) (lo : Nat) : Nat → (Nat → Nat) × (Nat → Nat → Int)
  | 0 => (fun _ => 0, fun _ _ => 0)
  | c + 1 => tns kd 20 0 (W (lo + c)) (tst kd W lo c)
/-- c numbers are in: each row is a chain, no row is longer than c, rows from c on are empty -/
def tok (kd : Int) (c : Nat) (s : (Nat → Nat) × (Nat → Nat → Int)) : Prop := (∀ a, s.1 a ≤ c) ∧ (∀ a, c ≤ a → s.1 a = 0) ∧ ∀ a x y, x < y → y < s.1 a → fol kd (s.2 a y) (s.2 a x)
theorem pgo_all {kd w : Int} {T : Nat → Int} : ∀ f k j, k ≤ j → j < pgo kd w T k f → fol kd w (T j)
  | 0, k, j, h1, h2 => by unfold pgo at h2; omega
  | f + 1, k, j, h1, h2 => by
    by_cases c : fol kd w (T k)
    · rw [pgo_t c] at h2
      rcases Nat.lt_or_ge k j with z | z
      · exact pgo_all f (k + 1) j z h2
      · rw [show j = k by omega]; exact c
    · rw [pgo_f c] at h2
      omega
theorem pgo_not {kd w : Int} {T : Nat → Int} : ∀ f k, pgo kd w T k f < k + f → ¬ fol kd w (T (pgo kd w T k f))
  | 0, k, h => by unfold pgo at h; omega
  | f + 1, k, h => by
    by_cases c : fol kd w (T k)
    · rw [pgo_t c] at h ⊢
      exact pgo_not f (k + 1) (by omega)
    · rw [pgo_f c] at h ⊢
      exact c
theorem fol_tr {kd x y z : Int} (h1 : fol kd x y) (h2 : fol kd y z) : fol kd x z := by unfold fol at *; omega
theorem fol_nt {kd x y z : Int} (hk : 0 ≤ kd ∧ kd ≤ 3) (h1 : fol kd x y) (h2 : ¬ fol kd z y) : fol kd x z := by unfold fol at *; omega
/-- a row of which the last is followed is followed whole -/
theorem pgo_end {kd w : Int} {T : Nat → Int} {m : Nat} (hs : ∀ x y, x < y → y < m → fol kd (T y) (T x)) (h : m = 0 ∨ fol kd w (T (m - 1))) : pgo kd w T 0 m = m := by
  have hr := pgo_r (kd := kd) (w := w) (T := T) m 0
  rcases Nat.lt_or_ge (pgo kd w T 0 m) m with c | c
  · exfalso
    refine pgo_not (kd := kd) (w := w) (T := T) m 0 (by omega) ?_
    rcases h with h | h
    · omega
    · rcases Nat.lt_or_ge (pgo kd w T 0 m) (m - 1) with z | z
      · exact fol_tr h (hs _ _ z (by omega))
      · rw [show pgo kd w T 0 m = m - 1 by omega]; exact h
  · omega
theorem tok_put {kd : Int} {c i : Nat} {v : Int} {s : (Nat → Nat) × (Nat → Nat → Int)} (hk : 0 ≤ kd ∧ kd ≤ 3) (h : tok kd c s) (hp : pgo kd v (s.2 i) 0 (s.1 i) ≠ s.1 i) : tok kd c (s.1, fun a b => if a = i ∧ b = pgo kd v (s.2 i) 0 (s.1 i) then v else s.2 a b) := by
  have hr := pgo_r (kd := kd) (w := v) (T := s.2 i) (s.1 i) 0
  refine ⟨h.1, h.2.1, fun a x y h1 h2 => ?_⟩
  show fol kd (if a = i ∧ y = _ then v else s.2 a y) (if a = i ∧ x = _ then v else s.2 a x)
  by_cases c1 : a = i
  · subst c1
    by_cases c2 : y = pgo kd v (s.2 a) 0 (s.1 a)
    · rw [if_pos ⟨rfl, c2⟩, if_neg (by omega)]
      exact pgo_all (s.1 a) 0 x (Nat.zero_le _) (by omega)
    · rw [if_neg (fun q => c2 q.2)]
      by_cases c3 : x = pgo kd v (s.2 a) 0 (s.1 a)
      · rw [if_pos ⟨rfl, c3⟩]
        have n1 := pgo_not (kd := kd) (w := v) (T := s.2 a) (s.1 a) 0 (by omega)
        rw [← c3] at n1
        exact fol_nt hk (h.2.2 a x y h1 h2) n1
      · rw [if_neg (fun q => c3 q.2)]
        exact h.2.2 a x y h1 h2
  · rw [if_neg (fun q => c1 q.1), if_neg (fun q => c1 q.1)]
    exact h.2.2 a x y h1 h2
theorem tok_add {kd : Int} {c i : Nat} {v : Int} {s : (Nat → Nat) × (Nat → Nat → Int)} (h : tok kd c s) (hi : i ≤ c) (hp : pgo kd v (s.2 i) 0 (s.1 i) = s.1 i) : tok kd (c + 1) (fun a => if a = i then s.1 i + 1 else s.1 a, fun a b => if a = i ∧ b = pgo kd v (s.2 i) 0 (s.1 i) then v else s.2 a b) := by
  refine ⟨fun a => ?_, fun a ha => ?_, fun a x y h1 h2 => ?_⟩
  · show (if a = i then s.1 i + 1 else s.1 a) ≤ c + 1
    have h3 := h.1 a
    have h4 := h.1 i
    split <;> omega
  · show (if a = i then s.1 i + 1 else s.1 a) = 0
    rw [if_neg (by omega)]
    exact h.2.1 a (by omega)
  · show fol kd (if a = i ∧ y = _ then v else s.2 a y) (if a = i ∧ x = _ then v else s.2 a x)
    have h2' : y < if a = i then s.1 i + 1 else s.1 a := h2
    by_cases c1 : a = i
    · subst c1
      rw [if_pos rfl] at h2'
      by_cases c2 : y = pgo kd v (s.2 a) 0 (s.1 a)
      · rw [if_pos ⟨rfl, c2⟩, if_neg (by omega)]
        exact pgo_all (s.1 a) 0 x (Nat.zero_le _) (by omega)
      · rw [if_neg (fun q => c2 q.2), if_neg (by omega)]
        exact h.2.2 a x y h1 (by omega)
    · rw [if_neg c1] at h2'
      rw [if_neg (fun q => c1 q.1), if_neg (fun q => c1 q.1)]
      exact h.2.2 a x y h1 h2'
theorem tns_ok {kd : Int} (hk : 0 ≤ kd ∧ kd ≤ 3) : ∀ f i v s c, tok kd c s → i ≤ c → c < i + f → tok kd (c + 1) (tns kd f i v s)
  | 0, i, v, s, c, h, h1, h2 => by omega
  | f + 1, i, v, s, c, h, h1, h2 => by
    unfold tns
    by_cases e : pgo kd v (s.2 i) 0 (s.1 i) = s.1 i
    · rw [if_pos e]
      exact tok_add h h1 e
    · rw [if_neg e]
      rcases Nat.lt_or_ge i c with z | z
      · exact tns_ok hk f (i + 1) _ _ c (tok_put hk h e) z (by omega)
      · have h0 := h.2.1 i (by omega)
        rw [h0] at e
        exact absurd rfl e
theorem tst_ok {kd : Int} {W : Nat → Int} {lo : Nat} (hk : 0 ≤ kd ∧ kd ≤ 3) : ∀ c, c ≤ 20 → tok kd c (tst kd W lo c)
  | 0, _ => ⟨fun _ => Nat.le_refl 0, fun _ _ => rfl, fun a x y _ h => absurd h (Nat.not_lt_zero y)⟩
  | c + 1, h => tns_ok hk 20 0 _ _ c (tst_ok hk c (by omega)) (Nat.zero_le _) (by omega)
section CSP
variable {K : KK} {d : Nat} {V : Mem} {P : Nat → Int × Int} {n R : Nat}
def repX (V : Mem) (s : (Nat → Nat) × (Nat → Nat → Int)) : Prop := (∀ a, a < 20 → V 202 a = (s.1 a : Int)) ∧ ∀ a b, a < 20 → b < s.1 a → V (182 + a) b = s.2 a b
def repM (V : Mem) (s : (Nat → Nat) × (Nat → Nat → Int)) : Prop := (∀ a, a < 21 → V 391 a = (s.1 a : Int)) ∧ ∀ a b, a < 21 → b < s.1 a → V 390 (20 * a + b) = s.2 a b
theorem c_insert {a c : Nat} {kd v : Int} {s : (Nat → Nat) × (Nat → Nat → Int)} (h0 : IsChains a) (ha : a < 180) (hkd : V a 6 = kd) (hk : 0 ≤ kd ∧ kd ≤ 3) (ht : tok kd c s) (hc : c < 20) (hr : repX V s) : Mv K (d + 1) mX8_insert [vR 180, vR a, vI v] V (fun V' => (∀ c, c < 182 ∨ 202 < c → V' c = V c) ∧ repX V' (tns kd 20 0 v s)) := by
  refine sX8_insert a _ h0 ?_
  have wqA : ∀ i, i ≤ 20 → i ≤ c → ∀ (v2 : Int) (s2 : (Nat → Nat) × (Nat → Nat → Int)) (V' : Mem), tok kd c s2 → (∀ c, c < 182 ∨ 202 < c → V' c = V c) → repX V' s2 → tns kd (20 - i) i v2 s2 = tns kd 20 0 v s → Wf K (d + 1) mX8_insert 5 [some (vR 180), some (vR a), none, some (vI v2), some (vI (i : Int)), none, none] [] V' (fun r V' => r = none ∧ (∀ c, c < 182 ∨ 202 < c → V' c = V c) ∧ repX V' (tns kd 20 0 v s)) := by
    refine up_ind ?_ ?_
    · intro h; omega
    · intro i hi ih hic v2 s2 V' t2 hV hr2 he
      have hsz := t2.1 i
      have hg := pgo_r (kd := kd) (w := v2) (T := s2.2 i) (s2.1 i) 0
      refine sX8_insert_5 a _ _ h0 ⟨fun q => by omega, fun _ => ?_⟩
      have fin : ∀ k : Nat, k = pgo kd v2 (s2.2 i) 0 (s2.1 i) → Wf K (d + 1) mX8_insert 54 [some (vR 180), some (vR a), none, some (vI v2), some (vI (i : Int)), some (vI (k : Int)), none] [] V' (fun r V' => r = none ∧ (∀ c, c < 182 ∨ 202 < c → V' c = V c) ∧ repX V' (tns kd 20 0 v s)) := by
        intro k hk2
        refine sX8_insert_54 a _ _ _ h0 ?_
        rw [tn, tn, Nat.one_mul, upm_a (b := 202) (by omega), hr2.1 i (by omega), w32_s (i := i) (by omega), w32_s (i := s2.1 i) (by omega)]
        refine ⟨⟨by omega, by omega⟩, fun _ => ⟨⟨by omega, by omega⟩, ⟨by omega, by omega⟩, ⟨by omega, by omega⟩, ⟨by omega, by omega⟩, ⟨by omega, by omega⟩, fun q => ?_, fun q => ⟨⟨by omega, by omega⟩, ⟨by omega, by omega⟩, rfl, fun c q => ?_, ?_⟩⟩, fun q => by omega⟩
        · rw [show (20 - i) = (20 - (i + 1)) + 1 by omega] at he
          rw [tns_f (by omega)] at he
          rw [hr2.2 i k (by omega) (by omega)]
          rcases Nat.lt_or_ge i c with z | z
          · refine ih z _ _ _ (tok_put (i := i) (v := v2) hk t2 (by omega)) (fun c q => by rw [upm_off c (by omega)]; exact hV c q) ⟨fun x hx => by rw [upm_a (by omega)]; exact hr2.1 x hx, fun x y hx hy => ?_⟩ (by rw [hk2]; exact he)
            show _ = if x = i ∧ y = _ then v2 else s2.2 x y
            rw [← hk2]
            by_cases c1 : x = i ∧ y = k
            · rw [if_pos c1, c1.1, c1.2, upm_s]
            · rw [if_neg c1]
              by_cases c2 : x = i
              · rw [upm_k (by omega)]; exact hr2.2 x y hx hy
              · rw [upm_a (by omega)]; exact hr2.2 x y hx hy
          · have := t2.2.1 i z
            omega
        · rw [upm_off c (by omega), upm_off c (by omega)]
          exact hV c q
        · rw [show (20 - i) = (20 - (i + 1)) + 1 by omega] at he
          rw [tns_t (by omega)] at he
          rw [← he]
          refine ⟨fun x hx => ?_, fun x y hx hy => ?_⟩
          · show _ = ((if x = i then s2.1 i + 1 else s2.1 x : Nat) : Int)
            by_cases c1 : x = i
            · rw [if_pos c1, c1, upm_s]
            · rw [if_neg c1, upm_k c1, upm_a (by omega)]; exact hr2.1 x hx
          · show _ = if x = i ∧ y = _ then v2 else s2.2 x y
            have hy' : y < if x = i then s2.1 i + 1 else s2.1 x := hy
            rw [← hk2, upm_a (by omega)]
            by_cases c1 : x = i ∧ y = k
            · rw [if_pos c1, c1.1, c1.2, upm_s]
            · rw [if_neg c1]
              by_cases c2 : x = i
              · subst c2
                rw [if_pos rfl] at hy'
                rw [upm_k (by omega)]; exact hr2.2 x y hx (by omega)
              · rw [if_neg c2] at hy'
                rw [upm_a (by omega)]; exact hr2.2 x y hx hy'
      have wqB : ∀ k, k ≤ s2.1 i → pgo kd v2 (s2.2 i) k (s2.1 i - k) = pgo kd v2 (s2.2 i) 0 (s2.1 i) → Wf K (d + 1) mX8_insert 18 [some (vR 180), some (vR a), none, some (vI v2), some (vI (i : Int)), some (vI (k : Int)), none] [] V' (fun r V' => r = none ∧ (∀ c, c < 182 ∨ 202 < c → V' c = V c) ∧ repX V' (tns kd 20 0 v s)) := by
        refine up_ind ?_ ?_
        · intro hq
          rw [Nat.sub_self] at hq
          refine sX8_insert_18 a _ _ _ h0 ⟨⟨by omega, by omega⟩, ?_⟩
          rw [tn, hr2.1 i (by omega)]
          exact ⟨fun _ => fin _ hq, fun c => absurd (Int.le_refl _) c⟩
        · intro k hk2 ih3 hq
          refine sX8_insert_18 a _ _ _ h0 ⟨⟨by omega, by omega⟩, ?_⟩
          rw [tn, tn, Nat.one_mul, hr2.1 i (by omega), hr2.2 i k (by omega) hk2]
          refine ⟨fun c => by omega, fun _ => ⟨⟨by omega, by omega⟩, ⟨by omega, by omega⟩, (c_mayFollow (d := d) h0 (by rw [hV a (by omega), hkd]; exact hk) _ _).use ?_⟩⟩
          rw [hV a (by omega), hkd]
          rw [show s2.1 i - k = (s2.1 i - (k + 1)) + 1 by omega] at hq
          by_cases c : fol kd v2 (s2.2 i k)
          · rw [if_pos c]
            rw [pgo_t c] at hq
            refine ⟨fun q => absurd q (by decide), fun _ => ?_⟩
            rw [w32_s (by omega)]
            exact ih3 hq
          · rw [if_neg c]
            rw [pgo_f c] at hq
            exact ⟨fun _ => fin k hq, fun q => absurd rfl q⟩
      exact wqB 0 (Nat.zero_le _) rfl
  exact wqA 0 (by omega) (Nat.zero_le _) v s V ht (fun _ _ => rfl) hr rfl
theorem m_inserts {c : Nat} {kd v : Int} {s : (Nat → Nat) × (Nat → Nat → Int)} (hkd : V 369 22 = kd) (hk : 0 ≤ kd ∧ kd ≤ 3) (ht : tok kd c s) (hc : c < 20) (hr : repM V s) : Mv K (d + 1) mX12_inserts [vR 369, vI v] V (fun V' => (∀ c, c ≠ 390 → c ≠ 391 → V' c = V c) ∧ repM V' (tns kd 20 0 v s)) := by
  refine sX12_inserts _ ?_
  have wqA : ∀ i, i ≤ 20 → i ≤ c → ∀ (v2 : Int) (s2 : (Nat → Nat) × (Nat → Nat → Int)) (V' : Mem), tok kd c s2 → (∀ c, c ≠ 390 → c ≠ 391 → V' c = V c) → repM V' s2 → tns kd (20 - i) i v2 s2 = tns kd 20 0 v s → Wf K (d + 1) mX12_inserts 4 [some (vR 369), none, some (vI v2), some (vI (i : Int)), none, none, none] [] V' (fun r V' => r = none ∧ (∀ c, c ≠ 390 → c ≠ 391 → V' c = V c) ∧ repM V' (tns kd 20 0 v s)) := by
    refine up_ind ?_ ?_
    · intro h; omega
    · intro i hi ih hic v2 s2 V' t2 hV hr2 he
      have hsz := t2.1 i
      have hso := t2.2.2 i
      have hg := pgo_r (kd := kd) (w := v2) (T := s2.2 i) (s2.1 i) 0
      have hFk : V' 369 22 = kd := by rw [hV 369 (by omega) (by omega)]; exact hkd
      have ix : ∀ k : Nat, k ≤ 20 → w32 (w32 (20 * (i : Int)) + (k : Int)) = ((20 * i + k : Nat) : Int) := fun k hk3 => by
        rw [w32_id (x := 20 * (i : Int)) (by omega) (by omega), w32_id (by omega) (by omega)]; omega
      have add : pgo kd v2 (s2.2 i) 0 (s2.1 i) = s2.1 i → ∃ V2 : Mem, V2 = upm (upm V' 390 (20 * i + s2.1 i) v2) 391 i ((s2.1 i + 1 : Nat) : Int) ∧ (∀ c, c ≠ 390 → c ≠ 391 → V2 c = V c) ∧ repM V2 (tns kd 20 0 v s) := by
        intro hk2
        refine ⟨_, rfl, fun c q1 q2 => by rw [upm_off c q2, upm_off c q1]; exact hV c q1 q2, ?_⟩
        rw [show (20 - i) = (20 - (i + 1)) + 1 by omega] at he
        rw [tns_t hk2] at he
        rw [← he]
        refine ⟨fun x hx => ?_, fun x y hx hy => ?_⟩
        · show _ = ((if x = i then s2.1 i + 1 else s2.1 x : Nat) : Int)
          by_cases c1 : x = i
          · rw [if_pos c1, c1, upm_s]
          · rw [if_neg c1, upm_k c1, upm_a (by omega)]; exact hr2.1 x hx
        · show _ = if x = i ∧ y = _ then v2 else s2.2 x y
          have hy' : y < if x = i then s2.1 i + 1 else s2.1 x := hy
          have hsx := t2.1 x
          rw [hk2, upm_a (by omega)]
          by_cases c1 : x = i ∧ y = s2.1 i
          · rw [if_pos c1, c1.1, c1.2, upm_s]
          · rw [if_neg c1]
            by_cases c2 : x = i
            · subst c2
              rw [if_pos rfl] at hy'
              rw [upm_k (by omega)]; exact hr2.2 x y hx (by omega)
            · rw [if_neg c2] at hy'
              rw [upm_k (by omega)]; exact hr2.2 x y hx hy'
      refine sX12_inserts_4 _ _ ⟨fun q => by omega, fun _ => ?_⟩
      rw [tn, hr2.1 i (by omega), ix (s2.1 i) (by omega), tn, upm_a (b := 391) (by omega), hr2.1 i (by omega), w32_s (by omega)]
      refine ⟨⟨by omega, by omega⟩, fun q => ⟨⟨by omega, by omega⟩, ⟨by omega, by omega⟩, ⟨by omega, by omega⟩, ⟨by omega, by omega⟩, rfl, ?_⟩, fun q => ?_⟩
      · obtain ⟨V2, e2, r2⟩ := add (pgo_end hso (Or.inl (by omega)))
        rw [← e2]
        exact r2
      · have e1 : w32 (((20 * i + s2.1 i : Nat) : Int) - 1) = ((20 * i + (s2.1 i - 1) : Nat) : Int) := by rw [w32_id (by omega) (by omega)]; omega
        rw [e1, tn, hr2.2 i (s2.1 i - 1) (by omega) (by omega)]
        refine ⟨⟨by omega, by omega⟩, ⟨by omega, by omega⟩, (m_follows (d := d) (by rw [hFk]; exact hk) _ _).use ?_⟩
        rw [hFk]
        by_cases cL : fol kd v2 (s2.2 i (s2.1 i - 1))
        · rw [if_pos cL]
          refine ⟨fun q => absurd q (by decide), fun _ => ?_⟩
          rw [hr2.1 i (by omega), ix (s2.1 i) (by omega), tn, upm_a (b := 391) (by omega), hr2.1 i (by omega), w32_s (by omega)]
          refine ⟨⟨by omega, by omega⟩, ⟨by omega, by omega⟩, ⟨by omega, by omega⟩, ⟨by omega, by omega⟩, rfl, ?_⟩
          obtain ⟨V2, e2, r2⟩ := add (pgo_end hso (Or.inr cL))
          rw [← e2]
          exact r2
        · rw [if_neg cL]
          refine ⟨fun _ => ?_, fun q => absurd rfl q⟩
          have hne : pgo kd v2 (s2.2 i) 0 (s2.1 i) ≠ s2.1 i := fun w => cL (pgo_all (s2.1 i) 0 (s2.1 i - 1) (Nat.zero_le _) (by omega))
          have wqB : ∀ k, k ≤ s2.1 i → pgo kd v2 (s2.2 i) k (s2.1 i - k) = pgo kd v2 (s2.2 i) 0 (s2.1 i) → Wf K (d + 1) mX12_inserts 78 [some (vR 369), none, some (vI v2), some (vI (i : Int)), some (vI (w32 (20 * (i : Int)))), some (vI (k : Int)), none] [] V' (fun r V' => r = none ∧ (∀ c, c ≠ 390 → c ≠ 391 → V' c = V c) ∧ repM V' (tns kd 20 0 v s)) := by
            refine up_ind ?_ ?_
            · intro hq
              rw [Nat.sub_self] at hq
              exact absurd hq.symm hne
            · intro k hk2 ih3 hq
              refine sX12_inserts_78 _ _ _ _ ?_
              rw [ix k (by omega), tn, hr2.2 i k (by omega) hk2]
              refine ⟨⟨by omega, by omega⟩, (m_follows (d := d) (by rw [hFk]; exact hk) _ _).use ?_⟩
              rw [hFk]
              rw [show s2.1 i - k = (s2.1 i - (k + 1)) + 1 by omega] at hq
              by_cases cf : fol kd v2 (s2.2 i k)
              · rw [if_pos cf]
                rw [pgo_t cf] at hq
                refine ⟨fun q => absurd q (by decide), fun _ => ?_⟩
                rw [w32_s (by omega)]
                exact ih3 hq
              · rw [if_neg cf]
                rw [pgo_f cf] at hq
                refine ⟨fun _ => ⟨⟨by omega, by omega⟩, ⟨by omega, by omega⟩, ?_⟩, fun q => absurd rfl q⟩
                rw [w32_s (by omega), hr2.2 i k (by omega) hk2]
                rw [show (20 - i) = (20 - (i + 1)) + 1 by omega] at he
                rw [tns_f hne] at he
                rcases Nat.lt_or_ge i c with z | z
                · refine ih z _ _ _ (tok_put hk t2 hne) (fun c q1 q2 => by rw [upm_off c q1]; exact hV c q1 q2) ⟨fun x hx => by rw [upm_a (by omega)]; exact hr2.1 x hx, fun x y hx hy => ?_⟩ (by rw [hq]; exact he)
                  show _ = if x = i ∧ y = _ then v2 else s2.2 x y
                  rw [← hq]
                  have hsx := t2.1 x
                  have hy' : y < s2.1 x := hy
                  by_cases c1 : x = i ∧ y = k
                  · rw [if_pos c1, c1.1, c1.2, upm_s]
                  · rw [if_neg c1, upm_k (by omega)]; exact hr2.2 x y hx hy'
                · have := t2.2.1 i z
                  omega
          exact wqB 0 (Nat.zero_le _) rfl
  exact wqA 0 (by omega) (Nat.zero_le _) v s V ht (fun _ _ _ => rfl) hr rfl
theorem c_fill {a lo hi : Nat} {kd : Int} {W : Nat → Int} (h0 : IsChains a) (ha : a < 180) (hkd : V a 6 = kd) (hk : 0 ≤ kd ∧ kd ≤ 3) (hW : ∀ p, lo ≤ p → p < hi → V (a + 1) p = W p) (hlh : lo ≤ hi) (h20 : hi ≤ 20) : Mv K (d + 2) mX8_fill [vR 180, vR a, vI (lo : Int), vI (hi : Int)] V (fun V' => (∀ c, c < 182 ∨ 202 < c → V' c = V c) ∧ repX V' (tst kd W lo (hi - lo))) := by
  refine sX8_fill a _ _ h0 ?_
  have wqB : ∀ p, p ≤ hi → lo ≤ p → ∀ V' : Mem, (∀ c, c < 182 ∨ 202 < c → V' c = V c) → repX V' (tst kd W lo (p - lo)) → Wf K (d + 2) mX8_fill 30 [some (vR 180), some (vR a), none, some (vI (hi : Int)), some (vI (p : Int))] [] V' (fun r V' => r = none ∧ (∀ c, c < 182 ∨ 202 < c → V' c = V c) ∧ repX V' (tst kd W lo (hi - lo))) := by
    refine up_ind ?_ ?_
    · intro _ V' hV hr
      exact sX8_fill_30 a _ _ h0 ⟨fun _ => ⟨rfl, hV, hr⟩, fun c => absurd (Int.le_refl _) c⟩
    · intro p hp ih hl V' hV hr
      refine sX8_fill_30 a _ _ h0 ⟨fun c => by omega, fun _ => ⟨⟨by omega, by omega⟩, ?_⟩⟩
      rw [tn, hV (a + 1) (by omega), hW p hl hp]
      refine (c_insert (d := d) (c := p - lo) h0 ha (by rw [hV a (by omega)]; exact hkd) hk (tst_ok hk (p - lo) (by omega)) (by omega) hr).use (fun V2 ⟨g1, g2⟩ => ?_)
      rw [w32_s (by omega)]
      refine ih (by omega) V2 (fun c q => by rw [g1 c q]; exact hV c q) ?_
      rw [show p + 1 - lo = (p - lo) + 1 by omega]
      show repX V2 (tns kd 20 0 (W (lo + (p - lo))) _)
      rw [show lo + (p - lo) = p by omega]
      exact g2
  have wqA : ∀ i, i ≤ 20 → ∀ V' : Mem, (∀ c, c < 182 ∨ 202 < c → V' c = V c) → (∀ j, j < i → V' 202 j = 0) → Wf K (d + 2) mX8_fill 3 [some (vR 180), some (vR a), some (vI (lo : Int)), some (vI (hi : Int)), some (vI (i : Int))] [] V' (fun r V' => r = none ∧ (∀ c, c < 182 ∨ 202 < c → V' c = V c) ∧ repX V' (tst kd W lo (hi - lo))) := by
    refine up_ind ?_ ?_
    · intro V' hV hz
      refine sX8_fill_3 a _ _ _ h0 ⟨fun _ => wqB lo hlh (Nat.le_refl _) V' hV ?_, fun c => absurd (by decide) c⟩
      rw [Nat.sub_self]
      exact ⟨fun x hx => hz x hx, fun x y _ hy => absurd hy (Nat.not_lt_zero y)⟩
    · intro i hi2 ih V' hV hz
      refine sX8_fill_3 a _ _ _ h0 ⟨fun c => by omega, fun _ => ⟨⟨by omega, by omega⟩, ?_⟩⟩
      rw [w32_s (by omega), tn]
      refine ih _ (fun c q => by rw [upm_off c (by omega)]; exact hV c q) (fun j hj => ?_)
      by_cases q : j = i
      · rw [q, upm_s]
      · rw [upm_k q]; exact hz j (by omega)
  exact wqA 0 (by omega) V (fun _ _ => rfl) (fun j hj => absurd hj (Nat.not_lt_zero j))
theorem x_shape (hI : Icore P n R V) (r f t x : Int) : Mi K (d + 5) mX11_shape [vR 0, vI r, vI f, vI t, vI x] V (fun z V' => FrX V V' ∧ z = if winC V r f t ∧ 0 ≤ x ∧ x ≤ 20 then (((tst (V 375 (3 + 22 * r.toNat)) (wR P n V r.toNat) f.toNat (t.toNat - f.toNat)).1 x.toNat : Nat) : Int) else -1) := by
  obtain ⟨hx, hr0, hR, hC, hlx, hlm, hw⟩ := id hI
  refine sX11_shape r f t x ⟨fun h => ⟨_, rfl, FrX.rf, by rw [if_neg (fun q => by have := q.1.1; omega)]⟩, fun h => ⟨fun h2 => ⟨_, rfl, FrX.rf, by rw [hx] at h2; rw [if_neg (fun q => by have := q.1.2.1; omega)]⟩, fun h2 => ?_⟩⟩
  obtain ⟨i, rfl⟩ : ∃ i : Nat, r = i := ⟨r.toNat, by omega⟩
  have hi : i < R := by omega
  obtain ⟨m, m1, m2, m3, m4, m5, m6, m7, m8⟩ := hI.row hi
  simp only [tn]
  rw [m1]
  have hwin : winC V i f t ↔ (0 ≤ f ∧ f ≤ t ∧ t ≤ m) := by
    unfold winC
    rw [tn, m2]
    omega
  have no : ¬ ((0 ≤ f ∧ f ≤ t ∧ t ≤ m) ∧ 0 ≤ x ∧ x ≤ 20) → ∃ z, some (vI (-1)) = some (vI z) ∧ FrX V V ∧ z = if winC V i f t ∧ 0 ≤ x ∧ x ≤ 20 then (((tst (V 375 (3 + 22 * i)) (wR P n V i) f.toNat (t.toNat - f.toNat)).1 x.toNat : Nat) : Int) else -1 := fun c => ⟨_, rfl, FrX.rf, by rw [if_neg (fun q => c ⟨hwin.mp q.1, q.2⟩)]⟩
  refine ⟨⟨by omega, by omega⟩, fun h3 => no (by omega), fun h3 => ⟨fun h4 => no (by omega), fun h4 => ⟨fun h5 => no (by omega), fun h5 => ⟨fun h6 => no (by omega), fun h6 => ⟨fun h7 => ?_, fun h7 => no (by omega)⟩⟩⟩⟩⟩
  obtain ⟨lo, rfl⟩ : ∃ lo : Nat, f = lo := ⟨f.toNat, by omega⟩
  obtain ⟨hi', rfl⟩ : ∃ hi' : Nat, t = hi' := ⟨t.toNat, by omega⟩
  refine (c_loadR (d := d + 2) (Or.inl rfl) hI hi m2).use (fun V1 ⟨k1, k2, k3, k4, k5⟩ => ?_)
  refine (c_fill (d := d + 2) (V := V1) is146 (by omega) k4 ⟨m7, m8⟩ (W := wR P n V i) (fun p _ q2 => k5 p (by omega)) (show lo ≤ hi' by omega) (by omega)).use (fun V2 ⟨g1, g2⟩ => ?_)
  have ok := tst_ok (kd := V 375 (3 + 22 * i)) (W := wR P n V i) (lo := lo) ⟨m7, m8⟩ (hi' - lo) (by omega)
  have fr : FrX V V2 := fun c hc => by rw [g1 c (by omega), k1 c hc]
  refine sX8_sizeOf _ ⟨fun q => by omega, fun _ => ⟨fun q => ⟨_, rfl, _, rfl, fr, ?_⟩, fun q => ⟨⟨by omega, by omega⟩, _, rfl, _, rfl, fr, ?_⟩⟩⟩
  · rw [if_pos ⟨hwin.mpr ⟨by omega, by omega, by omega⟩, by omega, by omega⟩, tn, tn, ok.2.1 x.toNat (by omega)]; rfl
  · rw [if_pos ⟨hwin.mpr ⟨by omega, by omega, by omega⟩, by omega, by omega⟩, tn, tn, g2.1 x.toNat (by omega)]
theorem m_shape (hI : Icore P n R V) (r f t x : Int) : Mi K (d + 5) mX12_shape [vR 369, vI r, vI f, vI t, vI x] V (fun z V' => FrM V V' ∧ z = if winC V r f t ∧ 0 ≤ x ∧ x ≤ 20 then (((tst (V 375 (3 + 22 * r.toNat)) (wR P n V r.toNat) f.toNat (t.toNat - f.toNat)).1 x.toNat : Nat) : Int) else -1) := by
  refine sX12_shape r f t x (m_window (d := d + 2) hI r f t (fun hc V1 hV => ⟨fun _ => ⟨_, rfl, hV, by rw [if_neg (fun q => hc q.1)]⟩, fun c => absurd rfl c⟩) ?_)
  rintro i lo hi m rfl rfl rfl b1 b2 b3 b4 b5 hc V1 hV
  obtain ⟨m', -, -, -, -, -, -, m7, m8⟩ := hI.row b1
  refine ⟨fun c => absurd c (by decide), fun _ => (m_within (d := d + 4) _ _ _).use ?_⟩
  simp only [tn]
  by_cases hx3 : 0 ≤ x ∧ x ≤ 20
  · rw [if_pos hx3, if_pos ⟨hc, hx3⟩]
    refine ⟨fun _ => (m_laysR (d := d + 1) hI hV b1 b5).use (fun V3 ⟨k1, k2, k3, k4, k5⟩ => ?_), fun c => absurd c (by decide)⟩
    generalize hkd : V 375 (3 + 22 * i) = kd at *
    have hW : ∀ p, p < m → V3 383 p = wR P n V i p := k5
    generalize wR P n V i = W at *
    have wqB : ∀ p, p ≤ hi → lo ≤ p → ∀ V' : Mem, (∀ c, c ≠ 390 → c ≠ 391 → V' c = V3 c) → repM V' (tst kd W lo (p - lo)) → Wf K (d + 5) mX12_shape 60 [some (vR 369), none, none, some (vI (hi : Int)), some (vI x), some (vI (p : Int))] [] V' (fun rr V' => ∃ z, rr = some (vI z) ∧ FrM V V' ∧ z = (((tst kd W lo (hi - lo)).1 x.toNat : Nat) : Int)) := by
      refine up_ind ?_ ?_
      · intro _ V' hV2 hr
        refine sX12_shape_60 _ _ _ ⟨fun _ => ⟨⟨by omega, by omega⟩, _, rfl, k1.tr ⟨fun c q1 q2 => hV2 c (by omega) (by omega), fun j _ _ _ _ => by rw [hV2 369 (by omega) (by omega)]⟩, hr.1 x.toNat (by omega)⟩, fun c => absurd (Int.le_refl _) c⟩
      · intro p hp ih hl V' hV2 hr
        refine sX12_shape_60 _ _ _ ⟨fun c => by omega, fun _ => ⟨⟨by omega, by omega⟩, ?_⟩⟩
        rw [tn, hV2 383 (by omega) (by omega), hW p (by omega)]
        refine (m_inserts (d := d + 3) (c := p - lo) (by rw [hV2 369 (by omega) (by omega)]; exact k3) ⟨m7, m8⟩ (tst_ok ⟨m7, m8⟩ (p - lo) (by omega)) (by omega) hr).use (fun V4 ⟨g1, g2⟩ => ?_)
        rw [w32_s (by omega)]
        refine ih (by omega) V4 (fun c q1 q2 => by rw [g1 c q1 q2]; exact hV2 c q1 q2) ?_
        rw [show p + 1 - lo = (p - lo) + 1 by omega]
        show repM V4 (tns kd 20 0 (W (lo + (p - lo))) _)
        rw [show lo + (p - lo) = p by omega]
        exact g2
    have wqA : ∀ j, j ≤ 21 → ∀ V' : Mem, (∀ c, c ≠ 390 → c ≠ 391 → V' c = V3 c) → (∀ q, q < j → V' 391 q = 0) → Wf K (d + 5) mX12_shape 36 [some (vR 369), none, some (vI (lo : Int)), some (vI (hi : Int)), some (vI x), some (vI (j : Int))] [] V' (fun rr V' => ∃ z, rr = some (vI z) ∧ FrM V V' ∧ z = (((tst kd W lo (hi - lo)).1 x.toNat : Nat) : Int)) := by
      refine up_ind ?_ ?_
      · intro V' hV2 hz
        refine sX12_shape_36 _ _ _ _ ⟨fun _ => wqB lo b2 (Nat.le_refl _) V' hV2 ?_, fun c => absurd (by decide) c⟩
        rw [Nat.sub_self]
        exact ⟨fun y hy => hz y hy, fun y u _ hu => absurd hu (Nat.not_lt_zero u)⟩
      · intro j hj ih V' hV2 hz
        refine sX12_shape_36 _ _ _ _ ⟨fun c => by omega, fun _ => ⟨⟨by omega, by omega⟩, ?_⟩⟩
        rw [w32_s (by omega), tn]
        refine ih _ (fun c q1 q2 => by rw [upm_off c q2]; exact hV2 c q1 q2) (fun q hq => ?_)
        by_cases w : q = j
        · rw [w, upm_s]
        · rw [upm_k w]; exact hz q (by omega)
    exact wqA 0 (by omega) V3 (fun _ _ _ => rfl) (fun q hq => absurd hq (Nat.not_lt_zero q))
  · rw [if_neg hx3]
    exact ⟨fun c => absurd rfl c, fun _ => ⟨_, rfl, hV, by rw [if_neg (fun q => hx3 q.2)]⟩⟩
end CSP
