/-! ===== the reference's law against the yard ===== -/
def mcd (V : Mem) (b : Nat) : List (Int × Int) → Prop
  | [] => True
  | x :: Q => V 376 (b + Q.length) = x.1 + 16 * x.2 ∧ mcd V b Q
theorem mcd_congr {V V' : Mem} {b : Nat} : ∀ Q : List (Int × Int), (∀ j, j < b + Q.length → V' 376 j = V 376 j) → mcd V b Q → mcd V' b Q
  | [], _, _ => trivial
  | x :: Q, h, ⟨h1, h2⟩ => ⟨by
      have e : (x :: Q).length = Q.length + 1 := rfl
      rw [h _ (by omega)]; exact h1, mcd_congr Q (fun j hj => h j (by have e : (x :: Q).length = Q.length + 1 := rfl; omega)) h2⟩
theorem mcd_app {V : Mem} {b : Nat} {Q : List (Int × Int)} (h : mcd V b Q) : ∀ Q2 : List (Int × Int), mcd V (b + Q.length) Q2 → mcd V b (Q2 ++ Q)
  | [], _ => h
  | x :: Q2, ⟨h1, h2⟩ => ⟨by
      have e : (Q2 ++ Q).length = Q2.length + Q.length := List.length_append
      show V 376 (b + (Q2 ++ Q).length) = _
      rw [e, show b + (Q2.length + Q.length) = b + Q.length + Q2.length by omega]; exact h1, mcd_app h Q2 h2⟩
theorem mcd_at {V : Mem} {b : Nat} : ∀ Q : List (Int × Int), mcd V b Q → ∀ j, j < Q.length → V 376 (b + j) = (gP Q j).1 + 16 * (gP Q j).2
  | [], _, j, hj => absurd hj (Nat.not_lt_zero j)
  | x :: Q, ⟨h1, h2⟩, j, hj => by
    have e : (x :: Q).length = Q.length + 1 := rfl
    have eg : gP (x :: Q) j = if j = Q.length then x else gP Q j := rfl
    rw [eg]
    by_cases q : j = Q.length
    · rw [if_pos q, q]; exact h1
    · rw [if_neg q]; exact mcd_at Q h2 j (by omega)
def ynt : List Int → Prop
  | [] => True
  | c :: _ => c ≠ 140
def okk (r : Nat) (S : List Int) : Prop := ytp S < r ∧ ynt S
/-- what is left alone -/
def MLf (c : Nat) (V V' : Mem) : Prop := (∀ x, x ≠ 369 → x ≠ 376 → V' x = V x) ∧ (∀ j, j ≠ 7 → j ≠ 8 → j ≠ 12 → V' 369 j = V 369 j) ∧ ∀ j, j < 1100 + c → V' 376 j = V 376 j
theorem MLf.trans {c c' : Nat} {V V' V'' : Mem} (h : MLf c V V') (h2 : MLf c' V' V'') (hc : c ≤ c') : MLf c V V'' := ⟨fun x p1 p2 => by rw [h2.1 x p1 p2]; exact h.1 x p1 p2, fun j p1 p2 p3 => by rw [h2.2.1 j p1 p2 p3]; exact h.2.1 j p1 p2 p3, fun j p => by rw [h2.2.2 j (by omega)]; exact h.2.2 j p⟩
theorem MLf.rfl {c : Nat} {V : Mem} : MLf c V V := ⟨fun _ _ _ => Eq.refl _, fun _ _ _ _ => Eq.refl _, fun _ _ => Eq.refl _⟩
theorem MLf.at7 {c : Nat} {V : Mem} {x : Int} : MLf c V (upm V 369 7 x) := ⟨fun y p1 _ => upm_off y p1, fun j p1 _ _ => upm_k p1, fun j _ => by rw [upm_off 376 (by decide)]⟩
theorem MLf.at8 {c : Nat} {V : Mem} {x : Int} : MLf c V (upm V 369 8 x) := ⟨fun y p1 _ => upm_off y p1, fun j _ p2 _ => upm_k p2, fun j _ => by rw [upm_off 376 (by decide)]⟩
/-- a token emitted -/
def emt (V : Mem) (c : Nat) (x : Int) : Mem := upm (upm V 376 (1100 + c) x) 369 12 ((c + 1 : Nat) : Int)
theorem MLf.eml {c : Nat} {V : Mem} {x : Int} : MLf c V (emt V c x) := ⟨fun y p1 p2 => by unfold emt; rw [upm_off y p1, upm_off y p2], fun j _ _ p3 => by unfold emt; rw [upm_k p3, upm_off 369 (by decide)], fun j hj => by unfold emt; rw [upm_off 376 (by decide), upm_k (by omega)]⟩
theorem MLf.rs {c : Nat} {V V' : Mem} {t : Nat → Int} {L N i j : Nat} (h : MLf c V V') (hs : RS V t L N i) (h7 : V' 369 7 = (j : Int)) (hj : j ≤ N) : RS V' t L N j := hs.mov h7 hj (h.1 371 (by decide) (by decide)) (h.1 372 (by decide) (by decide)) (h.1 373 (by decide) (by decide)) (h.1 374 (by decide) (by decide))
/-- the yard behind a part of rank r: its pendings of that rank and more, released, are Q -/
def PoL (r s : Nat) (t : Nat → Int) (L i i' : Nat) (Q C : List (Int × Int)) (S : List Int) : Prop := ∃ C1 S1, YR t L i true C S = YR t L i' false C1 S1 ∧ yrl r S1 C1 = (Q ++ C, S) ∧ (yrk (cT t L i') < s ∨ (s ≤ 2 ∧ yrk (cT t L i') = 2 ∧ ytp (yrl 3 S1 C1).2 = 2))
def LOk (r s k : Nat) (t : Nat → Int) (L N i c : Nat) (V V' : Mem) (i' : Nat) (Q : List (Int × Int)) : Prop := MLf c V V' ∧ RS V' t L N i' ∧ V' 369 8 = 0 ∧ V' 369 12 = ((c + Q.length : Nat) : Int) ∧ mcd V' (1100 + c) Q ∧ Q.length + i ≤ i' ∧ ∀ C S, yopn S = k → okk r S → PoL r s t L i i' Q C S
def LBad (r k : Nat) (t : Nat → Int) (L N i c : Nat) (V V' : Mem) : Prop := MLf c V V' ∧ (∃ i' c' : Nat, V' 369 7 = (i' : Int) ∧ i' ≤ N ∧ V' 369 12 = (c' : Int) ∧ c' + i ≤ c + i' ∧ i ≤ i' ∧ c ≤ c') ∧ 0 < V' 369 8 ∧ ∀ C S, yopn S = k → okk r S → (YR t L i true C S).1 = V' 369 8
section MLA
variable {r s k : Nat} {t : Nat → Int} {L N i c : Nat} {V W : Mem}
theorem LOk.up {i' : Nat} {Q : List (Int × Int)} (h : LOk (r + 1) s k t L N i c V W i' Q) : LOk r s k t L N i c V W i' Q := by
  obtain ⟨a1, a2, a3, a4, a5, a6, a7⟩ := h
  refine ⟨a1, a2, a3, a4, a5, a6, fun C S h1 h2 => ?_⟩
  obtain ⟨C1, S1, b1, b2, b3⟩ := a7 C S h1 ⟨by have := h2.1; omega, h2.2⟩
  refine ⟨C1, S1, b1, ?_, b3⟩
  rw [yrl_comp (q := r + 1) (by omega) S1 C1, b2]
  exact yrl_stop h2.1
theorem LBad.up (h : LBad (r + 1) k t L N i c V W) : LBad r k t L N i c V W := ⟨h.1, h.2.1, h.2.2.1, fun C S h1 h2 => h.2.2.2 C S h1 ⟨by have := h2.1; omega, h2.2⟩⟩
/-- no operator of the rank follows -/
theorem LOk.out {i' : Nat} {Q : List (Int × Int)} (h : LOk r (r + 1) k t L N i c V W i' Q) (hn : yrk (cT t L i') ≠ r) : LOk r r k t L N i c V W i' Q := by
  obtain ⟨a1, a2, a3, a4, a5, a6, a7⟩ := h
  refine ⟨a1, a2, a3, a4, a5, a6, fun C S h1 h2 => ?_⟩
  obtain ⟨C1, S1, b1, b2, b3⟩ := a7 C S h1 h2
  refine ⟨C1, S1, b1, b2, ?_⟩
  rcases b3 with x | ⟨x, y, z⟩
  · left; omega
  · right; exact ⟨by omega, y, z⟩
/-- the yard takes an operator -/
theorem YR_op {i1 : Nat} {C1 C' : List (Int × Int)} {S1 S' : List Int} {q : Nat} (hi : i1 ≤ 1000) (h0 : yrk (cT t L i1) ≠ 0) (hq : q = if yrk (cT t L i1) = 2 then 3 else yrk (cT t L i1)) (e : yrl q S1 C1 = (C', S')) (h2 : yrk (cT t L i1) = 2 → ytp S' ≠ 2) : YR t L i1 false C1 S1 = YR t L (i1 + 1) true C' (cT t L i1 :: S') := by
  have h59 : ¬ cT t L i1 = 59 := fun x => h0 (by rw [x]; decide)
  have h41 : ¬ cT t L i1 = 41 := fun x => h0 (by rw [x]; decide)
  refine YR_go hi ?_
  unfold yd
  rw [if_neg (by decide), if_neg h59, if_neg h41, if_neg h0]
  by_cases c2 : yrk (cT t L i1) = 2
  · rw [if_pos c2] at hq
    subst hq
    rw [if_pos c2, e, if_neg (h2 c2)]
  · rw [if_neg c2] at hq
    subst hq
    rw [if_neg c2, e]
theorem emt_rs {X : Mem} {j c' : Nat} {x : Int} (h : RS X t L N j) : RS (emt X c' x) t L N j := h.mov (by unfold emt; rw [upm_k (by decide), upm_off 369 (by decide)]; exact h.1) h.2.1 (by unfold emt; rw [upm_off 371 (by decide), upm_off 371 (by decide)]) (by unfold emt; rw [upm_off 372 (by decide), upm_off 372 (by decide)]) (by unfold emt; rw [upm_off 373 (by decide), upm_off 373 (by decide)]) (by unfold emt; rw [upm_off 374 (by decide), upm_off 374 (by decide)])
theorem emt_8 {X : Mem} {c' : Nat} {x : Int} : (emt X c' x) 369 8 = X 369 8 := by unfold emt; rw [upm_k (by decide), upm_off 369 (by decide)]
theorem emt_7 {X : Mem} {c' : Nat} {x : Int} : (emt X c' x) 369 7 = X 369 7 := by unfold emt; rw [upm_k (by decide), upm_off 369 (by decide)]
theorem emt_12 {X : Mem} {c' : Nat} {x : Int} : (emt X c' x) 369 12 = ((c' + 1 : Nat) : Int) := upm_s _ _ _ _
theorem emt_c {X : Mem} {c' : Nat} {x : Int} : (emt X c' x) 376 (1100 + c') = x := by unfold emt; rw [upm_off 376 (by decide), upm_s]
/-- memory behind an operand and its operator -/
theorem LOk.mem {r' s' i1 i2 : Nat} {Q Q2 : List (Int × Int)} {X : Mem} {x : Int × Int} {p : Int} (h : MLf c V W ∧ RS W t L N i1 ∧ W 369 8 = 0 ∧ W 369 12 = ((c + Q.length : Nat) : Int) ∧ mcd W (1100 + c) Q ∧ Q.length + i ≤ i1) (h2 : LOk r' s' k t L N (i1 + 1) (c + Q.length) (upm W 369 7 p) X i2 Q2) (hx : x.2 = 0) : MLf c V (emt X (c + Q.length + Q2.length) x.1) ∧ RS (emt X (c + Q.length + Q2.length) x.1) t L N i2 ∧ (emt X (c + Q.length + Q2.length) x.1) 369 8 = 0 ∧ (emt X (c + Q.length + Q2.length) x.1) 369 12 = ((c + (x :: (Q2 ++ Q)).length : Nat) : Int) ∧ mcd (emt X (c + Q.length + Q2.length) x.1) (1100 + c) (x :: (Q2 ++ Q)) ∧ (x :: (Q2 ++ Q)).length + i ≤ i2 := by
  obtain ⟨a1, a2, a3, a4, a5, a6⟩ := h
  obtain ⟨b1, b2, b3, b4, b5, b6, b7⟩ := h2
  have el : (x :: (Q2 ++ Q)).length = Q2.length + Q.length + 1 := by
    show (Q2 ++ Q).length + 1 = _
    rw [List.length_append]
  have el2 : (Q2 ++ Q).length = Q2.length + Q.length := List.length_append
  have fX : MLf c V X := a1.trans ((MLf.at7 (c := c)).trans b1 (by omega)) (by omega)
  refine ⟨fX.trans MLf.eml (by omega), emt_rs b2, by rw [emt_8]; exact b3, by rw [emt_12, el]; omega, ⟨?_, ?_⟩, by omega⟩
  · rw [el2, show 1100 + c + (Q2.length + Q.length) = 1100 + (c + Q.length + Q2.length) by omega, emt_c, hx]; omega
  · refine mcd_congr (V := X) _ (fun j hj => (MLf.eml (V := X) (c := c + Q.length + Q2.length)).2.2 j (by omega)) ?_
    refine mcd_app (mcd_congr (V := W) Q (fun j hj => ?_) a5) Q2 (by rw [show 1100 + c + Q.length = 1100 + (c + Q.length) by omega]; exact b5)
    rw [b1.2.2 j (by omega), upm_off 376 (by decide)]
theorem LOk.step {i1 i2 : Nat} {Q Q2 : List (Int × Int)} {X : Mem} {p : Int} (hN : N ≤ 1000) (hr : r ≠ 0 ∧ r ≠ 2) (h : LOk r (r + 1) k t L N i c V W i1 Q) (hk : yrk (cT t L i1) = r) (h2 : LOk (r + 1) (r + 1) k t L N (i1 + 1) (c + Q.length) (upm W 369 7 p) X i2 Q2) : LOk r (r + 1) k t L N i c V (emt X (c + Q.length + Q2.length) (yop (cT t L i1)).1) i2 (yop (cT t L i1) :: (Q2 ++ Q)) := by
  obtain ⟨m1, m2, m3, m4, m5, m6⟩ := LOk.mem (x := yop (cT t L i1)) ⟨h.1, h.2.1, h.2.2.1, h.2.2.2.1, h.2.2.2.2.1, h.2.2.2.2.2.1⟩ h2 rfl
  refine ⟨m1, m2, m3, m4, m5, m6, fun C S h1 h3 => ?_⟩
  obtain ⟨C1, S1, b1, b2, b3⟩ := h.2.2.2.2.2.2 C S h1 h3
  have hi1 := h.2.1.2.1
  have e1 := YR_op (t := t) (L := L) (i1 := i1) (q := r) (by omega) (by omega) (by rw [if_neg (by omega)]; exact hk.symm) b2 (fun q => by omega)
  have o1 : yopn (cT t L i1 :: S) = k := by
    show (if yrk (cT t L i1) = 0 then 1 else 0) + yopn S = k
    rw [if_neg (by omega), Nat.zero_add]; exact h1
  have n140 : cT t L i1 ≠ 140 := fun x => hr.1 (by rw [← hk, x]; decide)
  obtain ⟨C2, S2, d1, d2, d3⟩ := h2.2.2.2.2.2.2 (Q ++ C) (cT t L i1 :: S) o1 ⟨by show yrk (cT t L i1) < r + 1; omega, n140⟩
  refine ⟨C2, S2, by rw [b1, e1, d1], ?_, d3⟩
  rw [yrl_comp (q := r + 1) (by omega) S2 C2, d2]
  show (if r ≤ yrk (cT t L i1) then yrl r S (yop (cT t L i1) :: (Q2 ++ (Q ++ C))) else _) = _
  rw [if_pos (by omega), yrl_stop h3.1, List.cons_append, List.append_assoc]
theorem LBad.step {i1 : Nat} {Q : List (Int × Int)} {X : Mem} {p x : Int} {c' : Nat} (hN : N ≤ 1000) (hr : r ≠ 0 ∧ r ≠ 2) (h : LOk r (r + 1) k t L N i c V W i1 Q) (hk : yrk (cT t L i1) = r) (h2 : LBad (r + 1) k t L N (i1 + 1) (c + Q.length) (upm W 369 7 p) X) (hc' : X 369 12 = (c' : Int)) : LBad r k t L N i c V (emt X c' x) := by
  obtain ⟨a1, a2, a3, a4, a5, a6, a7⟩ := h
  obtain ⟨b1, ⟨j, c2, j1, j2, j3, j4, j5, j6⟩, b3, b4⟩ := h2
  have ec : c' = c2 := by omega
  subst ec
  have fX : MLf c V X := a1.trans ((MLf.at7 (c := c)).trans b1 (by omega)) (by omega)
  refine ⟨fX.trans MLf.eml (by omega), ⟨j, c' + 1, by rw [emt_7]; exact j1, j2, emt_12, by omega, by omega, by omega⟩, by rw [emt_8]; exact b3, fun C S h1 h3 => ?_⟩
  obtain ⟨C1, S1, d1, d2, d3⟩ := a7 C S h1 h3
  have hi1 := a2.2.1
  have e1 := YR_op (t := t) (L := L) (i1 := i1) (q := r) (by omega) (by omega) (by rw [if_neg (by omega)]; exact hk.symm) d2 (fun q => by omega)
  have o1 : yopn (cT t L i1 :: S) = k := by
    show (if yrk (cT t L i1) = 0 then 1 else 0) + yopn S = k
    rw [if_neg (by omega), Nat.zero_add]; exact h1
  have n140 : cT t L i1 ≠ 140 := fun x => hr.1 (by rw [← hk, x]; decide)
  rw [d1, e1, emt_8]
  exact b4 (Q ++ C) (cT t L i1 :: S) o1 ⟨by show yrk (cT t L i1) < r + 1; omega, n140⟩
/-- a comparison -/
theorem LOk.cmp {i1 i2 : Nat} {Q Q2 : List (Int × Int)} {X : Mem} {p : Int} (hN : N ≤ 1000) (h : LOk 3 3 k t L N i c V W i1 Q) (hk : yrk (cT t L i1) = 2) (h2 : LOk 3 3 k t L N (i1 + 1) (c + Q.length) (upm W 369 7 p) X i2 Q2) : LOk 2 2 k t L N i c V (emt X (c + Q.length + Q2.length) (yop (cT t L i1)).1) i2 (yop (cT t L i1) :: (Q2 ++ Q)) := by
  obtain ⟨m1, m2, m3, m4, m5, m6⟩ := LOk.mem (x := yop (cT t L i1)) ⟨h.1, h.2.1, h.2.2.1, h.2.2.2.1, h.2.2.2.2.1, h.2.2.2.2.2.1⟩ h2 rfl
  refine ⟨m1, m2, m3, m4, m5, m6, fun C S h1 h3 => ?_⟩
  have h31 := h3.1
  obtain ⟨C1, S1, b1, b2, b3⟩ := h.2.2.2.2.2.2 C S h1 ⟨by omega, h3.2⟩
  have hi1 := h.2.1.2.1
  have e1 := YR_op (t := t) (L := L) (i1 := i1) (q := 3) (by omega) (by omega) (by rw [if_pos hk]) b2 (fun q => by omega)
  have o1 : yopn (cT t L i1 :: S) = k := by
    show (if yrk (cT t L i1) = 0 then 1 else 0) + yopn S = k
    rw [if_neg (by omega), Nat.zero_add]; exact h1
  have n140 : cT t L i1 ≠ 140 := fun x => absurd hk (by rw [x]; decide)
  obtain ⟨C2, S2, d1, d2, d3⟩ := h2.2.2.2.2.2.2 (Q ++ C) (cT t L i1 :: S) o1 ⟨by show yrk (cT t L i1) < 3; omega, n140⟩
  refine ⟨C2, S2, by rw [b1, e1, d1], ?_, ?_⟩
  · rw [yrl_comp (q := 3) (by omega) S2 C2, d2]
    show (if 2 ≤ yrk (cT t L i1) then yrl 2 S (yop (cT t L i1) :: (Q2 ++ (Q ++ C))) else _) = _
    rw [if_pos (by omega), yrl_stop h3.1, List.cons_append, List.append_assoc]
  · by_cases q : yrk (cT t L i2) = 2
    · right
      refine ⟨by omega, q, ?_⟩
      rw [d2]
      exact hk
    · left
      rcases d3 with x | ⟨x, y, z⟩
      · omega
      · omega
theorem LBad.cmp {i1 : Nat} {Q : List (Int × Int)} {X : Mem} {p x : Int} {c' : Nat} (hN : N ≤ 1000) (h : LOk 3 3 k t L N i c V W i1 Q) (hk : yrk (cT t L i1) = 2) (h2 : LBad 3 k t L N (i1 + 1) (c + Q.length) (upm W 369 7 p) X) (hc' : X 369 12 = (c' : Int)) : LBad 2 k t L N i c V (emt X c' x) := by
  obtain ⟨a1, a2, a3, a4, a5, a6, a7⟩ := h
  obtain ⟨b1, ⟨j, c2, j1, j2, j3, j4, j5, j6⟩, b3, b4⟩ := h2
  have ec : c' = c2 := by omega
  subst ec
  have fX : MLf c V X := a1.trans ((MLf.at7 (c := c)).trans b1 (by omega)) (by omega)
  refine ⟨fX.trans MLf.eml (by omega), ⟨j, c' + 1, by rw [emt_7]; exact j1, j2, emt_12, by omega, by omega, by omega⟩, by rw [emt_8]; exact b3, fun C S h1 h3 => ?_⟩
  have h31 := h3.1
  obtain ⟨C1, S1, d1, d2, d3⟩ := a7 C S h1 ⟨by omega, h3.2⟩
  have hi1 := a2.2.1
  have e1 := YR_op (t := t) (L := L) (i1 := i1) (q := 3) (by omega) (by omega) (by rw [if_pos hk]) d2 (fun q => by omega)
  have o1 : yopn (cT t L i1 :: S) = k := by
    show (if yrk (cT t L i1) = 0 then 1 else 0) + yopn S = k
    rw [if_neg (by omega), Nat.zero_add]; exact h1
  have n140 : cT t L i1 ≠ 140 := fun x => absurd hk (by rw [x]; decide)
  rw [d1, e1, emt_8]
  exact b4 (Q ++ C) (cT t L i1 :: S) o1 ⟨by show yrk (cT t L i1) < 3; omega, n140⟩
end MLA
