/-! ===== the class's yard ===== -/
def ystk (V : Mem) : List Int → Prop
  | [] => True
  | c :: S => V 42 S.length = c ∧ ystk V S
def ycod (V : Mem) : List (Int × Int) → Prop
  | [] => True
  | x :: C => V 36 C.length = ccode x ∧ ycod V C
theorem ystk_congr {V V' : Mem} : ∀ S : List Int, (∀ j, j < S.length → V' 42 j = V 42 j) → ystk V S → ystk V' S
  | [], _, _ => trivial
  | c :: S, h, ⟨h1, h2⟩ => ⟨by
      have e : (c :: S).length = S.length + 1 := rfl
      rw [h S.length (by omega)]; exact h1, ystk_congr S (fun j hj => h j (by have e : (c :: S).length = S.length + 1 := rfl; omega)) h2⟩
theorem ycod_congr {V V' : Mem} : ∀ C : List (Int × Int), (∀ j, j < C.length → V' 36 j = V 36 j) → ycod V C → ycod V' C
  | [], _, _ => trivial
  | c :: C, h, ⟨h1, h2⟩ => ⟨by
      have e : (c :: C).length = C.length + 1 := rfl
      rw [h C.length (by omega)]; exact h1, ycod_congr C (fun j hj => h j (by have e : (c :: C).length = C.length + 1 := rfl; omega)) h2⟩
theorem ycod_at {V : Mem} : ∀ C : List (Int × Int), ycod V C → ∀ j, j < C.length → V 36 j = ccode (gP C j)
  | [], _, j, hj => absurd hj (Nat.not_lt_zero j)
  | x :: C, ⟨h1, h2⟩, j, hj => by
    have e : (x :: C).length = C.length + 1 := rfl
    show V 36 j = ccode (if j = C.length then x else gP C j)
    by_cases q : j = C.length
    · rw [if_pos q, q]; exact h1
    · rw [if_neg q]; exact ycod_at C h2 j (by omega)
/-- the class's law is C, its pendings are S, but for the depth -/
def LB (V : Mem) (C : List (Int × Int)) (S : List Int) : Prop := V 4 4 = (S.length : Nat) ∧ ystk V S ∧ V 35 2 = (C.length : Nat) ∧ ycod V C
def LA (V : Mem) (C : List (Int × Int)) (S : List Int) : Prop := LB V C S ∧ V 4 5 = (yopn S : Nat)
theorem LB.congr {V V' : Mem} {C : List (Int × Int)} {S : List Int} (h : LB V C S) (h4 : V' 4 4 = V 4 4) (h35 : V' 35 = V 35) (h36 : V' 36 = V 36) (h42 : V' 42 = V 42) : LB V' C S := ⟨by rw [h4]; exact h.1, ystk_congr S (fun j _ => by rw [h42]) h.2.1, by rw [h35]; exact h.2.2.1, ycod_congr C (fun j _ => by rw [h36]) h.2.2.2⟩
/-- what the yard's helpers leave alone -/
def LFx (V V' : Mem) : Prop := (∀ c, c ≠ 4 → c ≠ 35 → c ≠ 36 → c ≠ 42 → V' c = V c) ∧ ∀ j, j ≠ 4 → j ≠ 5 → V' 4 j = V 4 j
theorem LFx.trans {V V' V'' : Mem} (h : LFx V V') (h2 : LFx V' V'') : LFx V V'' := ⟨fun c p1 p2 p3 p4 => by rw [h2.1 c p1 p2 p3 p4]; exact h.1 c p1 p2 p3 p4, fun j p1 p2 => by rw [h2.2 j p1 p2]; exact h.2 j p1 p2⟩
theorem LFx.rfl {V : Mem} : LFx V V := ⟨fun _ _ _ _ _ => Eq.refl _, fun _ _ _ => Eq.refl _⟩
theorem yw32 {c : Int} (h : yrk c ≠ 0) : w32 (-c) = ccode (yop c) := by rcases yrk_c h with q | q | q | q | q | q | q <;> rw [q] <;> decide
section CYD
variable {K : KK} {d : Nat} {V : Mem} {C : List (Int × Int)} {S : List Int}
theorem c_rankOf (x : Int) : Pu K d mX5_rankOf [vI x] V (yrk x : Nat) := by
  refine sX5_rankOf x ⟨fun h => ⟨_, rfl, ?_, rfl⟩, fun h => ⟨_, rfl, ?_, rfl⟩, fun h => ⟨_, rfl, ?_, rfl⟩, fun h => ⟨_, rfl, ?_, rfl⟩, fun h => ⟨_, rfl, ?_, rfl⟩, fun h => ⟨_, rfl, ?_, rfl⟩, fun h => ⟨_, rfl, ?_, rfl⟩, fun h => ⟨_, rfl, ?_, rfl⟩⟩
  · rw [h]; decide
  · rw [h]; decide
  · rw [h]; decide
  · rw [h]; decide
  · rw [h]; decide
  · rw [h]; decide
  · rw [h]; decide
  · unfold yrk
    rw [if_neg (by omega), if_neg (by omega), if_neg (by omega), if_neg (by omega)]
    rfl
theorem c_lawAdd {n : Nat} (x : Int) (h : V 35 2 = (n : Nat)) (hn : n < 1000) : Mv K d mX4_add [vR 35, vI x] V (fun V' => V' = upm (upm V 36 n x) 35 2 ((n + 1 : Nat) : Int)) := by
  refine sX4_add 35 x is35 ?_
  rw [upm_off 35 (by decide), h, tn, w32_s (i := n) (by omega)]
  exact ⟨fun q => by omega, fun _ => ⟨fun q => by omega, fun _ => ⟨⟨by omega, by omega⟩, rfl, rfl⟩⟩⟩
theorem LB.add {x : Int × Int} (h : LB V C S) : LB (upm (upm V 36 C.length (ccode x)) 35 2 ((C.length + 1 : Nat) : Int)) (x :: C) S :=
  ⟨by rw [upm_off 4 (by decide), upm_off 4 (by decide)]; exact h.1, ystk_congr S (fun j _ => by rw [upm_off 42 (by decide), upm_off 42 (by decide)]) h.2.1, upm_s _ _ _ _, by rw [upm_off 36 (by decide), upm_s], ycod_congr C (fun j hj => by rw [upm_off 36 (by decide), upm_k (by omega)]) h.2.2.2⟩
theorem LB.pop {c : Int} (h : LB V C (c :: S)) : LB (upm V 4 4 (S.length : Nat)) C S :=
  ⟨upm_s _ _ _ _, ystk_congr S (fun j _ => by rw [upm_off 42 (by decide)]) h.2.1.2, by rw [upm_off 35 (by decide)]; exact h.2.2.1, ycod_congr C (fun j _ => by rw [upm_off 36 (by decide)]) h.2.2.2⟩
theorem c_release {r : Nat} (hr : 1 ≤ r) : ∀ (S : List Int) (C : List (Int × Int)) (V : Mem), LB V C S → C.length + S.length ≤ 1000 → S.length ≤ 30 → Mv K (d + 1) mX5_release [vR 4, vI (r : Int)] V (fun V' => LFx V V' ∧ V' 4 5 = V 4 5 ∧ LB V' (yrl r S C).1 (yrl r S C).2) ∧ Wf K (d + 1) mX5_release 0 [some (vR 4), some (vI (r : Int))] [] V (fun z V' => z = none ∧ LFx V V' ∧ V' 4 5 = V 4 5 ∧ LB V' (yrl r S C).1 (yrl r S C).2)
  | [], C, V, h, _, _ => by
    have h0 : V 4 4 = 0 := h.1
    constructor
    · refine sX5_release _ ?_
      rw [h0]
      exact ⟨fun _ => ⟨rfl, LFx.rfl, rfl, h⟩, fun q => absurd (Int.le_refl _) q⟩
    · refine sX5_release_0 _ ?_
      rw [h0]
      exact ⟨fun _ => ⟨rfl, LFx.rfl, rfl, h⟩, fun q => absurd (Int.le_refl _) q⟩
  | c :: S, C, V, h, hl, hs => by
    have e1 : (c :: S).length = S.length + 1 := rfl
    have h0 : V 4 4 = ((S.length + 1 : Nat) : Int) := h.1
    have hc : V 42 S.length = c := h.2.1.1
    have er : yrl r (c :: S) C = if r ≤ yrk c then yrl r S (yop c :: C) else (C, c :: S) := rfl
    have e2 : (yop c :: C).length = C.length + 1 := rfl
    constructor
    · refine sX5_release _ ?_
      rw [h0, ix88 (e := S.length) (by omega), tn, hc]
      refine ⟨fun q => by omega, fun _ => ⟨⟨by omega, by omega⟩, (c_rankOf c).use ?_⟩⟩
      rw [h0, ix88 (e := S.length) (by omega), upm_s, tn, upm_off 42 (by decide), hc]
      refine ⟨fun q => ⟨rfl, LFx.rfl, rfl, ?_⟩, fun q => ?_⟩
      · rw [er, if_neg (by omega)]; exact h
      · rw [yw32 (by omega)]
        refine ⟨⟨by omega, by omega⟩, Mv.use (c_lawAdd (n := C.length) _ (by rw [upm_off 35 (by decide)]; exact h.2.2.1) (by omega)) ?_⟩
        intro V1 e
        have b := (LB.pop h).add (x := yop c)
        rw [← e] at b
        rw [er, if_pos (by omega)]
        refine ((c_release hr S (yop c :: C) V1 b (by omega) (by omega)).2).imp ?_
        rintro z V2 ⟨z0, z1, z2, z3⟩
        refine ⟨z0, LFx.trans ⟨fun c p1 p2 p3 p4 => by rw [e, upm_off c p2, upm_off c p3, upm_off c p1], fun j p1 p2 => by rw [e, upm_off 4 (by decide), upm_off 4 (by decide), upm_k p1]⟩ z1, ?_, z3⟩
        rw [z2, e, upm_off 4 (by decide), upm_off 4 (by decide), upm_k (by decide)]
    · refine sX5_release_0 _ ?_
      rw [h0, ix88 (e := S.length) (by omega), tn, hc]
      refine ⟨fun q => by omega, fun _ => ⟨⟨by omega, by omega⟩, (c_rankOf c).use ?_⟩⟩
      rw [h0, ix88 (e := S.length) (by omega), upm_s, tn, upm_off 42 (by decide), hc]
      refine ⟨fun q => ⟨rfl, LFx.rfl, rfl, ?_⟩, fun q => ?_⟩
      · rw [er, if_neg (by omega)]; exact h
      · rw [yw32 (by omega)]
        refine ⟨⟨by omega, by omega⟩, Mv.use (c_lawAdd (n := C.length) _ (by rw [upm_off 35 (by decide)]; exact h.2.2.1) (by omega)) ?_⟩
        intro V1 e
        have b := (LB.pop h).add (x := yop c)
        rw [← e] at b
        rw [er, if_pos (by omega)]
        refine ((c_release hr S (yop c :: C) V1 b (by omega) (by omega)).2).imp ?_
        rintro z V2 ⟨z0, z1, z2, z3⟩
        refine ⟨z0, LFx.trans ⟨fun c p1 p2 p3 p4 => by rw [e, upm_off c p2, upm_off c p3, upm_off c p1], fun j p1 p2 => by rw [e, upm_off 4 (by decide), upm_off 4 (by decide), upm_k p1]⟩ z1, ?_, z3⟩
        rw [z2, e, upm_off 4 (by decide), upm_off 4 (by decide), upm_k (by decide)]
theorem c_releaseNots : ∀ (S : List Int) (C : List (Int × Int)) (V : Mem), LA V C S → C.length + S.length ≤ 1000 → S.length ≤ 30 → Mv K (d + 1) mX5_releaseNots [vR 4] V (fun V' => LFx V V' ∧ LA V' (yrn S C).1 (yrn S C).2) ∧ Wf K (d + 1) mX5_releaseNots 0 [some (vR 4)] [] V (fun z V' => z = none ∧ LFx V V' ∧ LA V' (yrn S C).1 (yrn S C).2)
  | [], C, V, h, _, _ => by
    have h0 : V 4 4 = 0 := h.1.1
    constructor
    · refine sX5_releaseNots ?_
      rw [h0]
      exact ⟨fun _ => ⟨rfl, LFx.rfl, h⟩, fun q => absurd (Int.le_refl _) q⟩
    · refine sX5_releaseNots_0 ?_
      rw [h0]
      exact ⟨fun _ => ⟨rfl, LFx.rfl, h⟩, fun q => absurd (Int.le_refl _) q⟩
  | c :: S, C, V, h, hl, hs => by
    have e1 : (c :: S).length = S.length + 1 := rfl
    have h0 : V 4 4 = ((S.length + 1 : Nat) : Int) := h.1.1
    have hc : V 42 S.length = c := h.1.2.1.1
    have er : yrn (c :: S) C = if c = 140 then yrn S ((3, 0) :: C) else (C, c :: S) := rfl
    have e2 : (((3 : Int), (0 : Int)) :: C).length = C.length + 1 := rfl
    have h5 : V 4 5 = (((if yrk c = 0 then 1 else 0) + yopn S : Nat) : Int) := h.2
    have yl : yopn S ≤ S.length := by
      clear h hl hs h0 hc er e2 h5 e1
      induction S with
      | nil => exact Nat.zero_le _
      | cons b S ih =>
        show (if yrk b = 0 then 1 else 0) + yopn S ≤ S.length + 1
        by_cases q : yrk b = 0
        · rw [if_pos q]; omega
        · rw [if_neg q]; omega
    have body : ¬ (V 42 S.length = 140) → (LFx V V ∧ LA V (yrn (c :: S) C).1 (yrn (c :: S) C).2) := fun q => by
      rw [hc] at q
      rw [er, if_neg q]
      exact ⟨LFx.rfl, h⟩
    have more : V 42 S.length = 140 → ∀ V1 : Mem, V1 = upm (upm (upm (upm V 4 4 ((S.length : Nat) : Int)) 4 5 (w32 ((upm V 4 4 ((S.length : Nat) : Int)) 4 5 - 1))) 36 C.length (ccode (3, 0))) 35 2 ((C.length + 1 : Nat) : Int) → Wf K (d + 1) mX5_releaseNots 0 [some (vR 4)] [] V1 (fun z V' => z = none ∧ LFx V V' ∧ LA V' (yrn (c :: S) C).1 (yrn (c :: S) C).2) := by
      intro q V1 e
      rw [hc] at q
      have z0 : yrk c = 0 := by rw [q]; decide
      rw [if_pos z0] at h5
      have b := (LB.pop h.1)
      have b5 : (upm V 4 4 ((S.length : Nat) : Int)) 4 5 = ((1 + yopn S : Nat) : Int) := by rw [upm_k (by decide)]; exact h5
      rw [b5, show (1 + yopn S) = yopn S + 1 by omega, ix88 (e := yopn S) (by omega)] at e
      have b2 : LB (upm (upm V 4 4 ((S.length : Nat) : Int)) 4 5 ((yopn S : Nat) : Int)) C S := b.congr (upm_k (by decide)) (upm_off 35 (by decide)) (upm_off 36 (by decide)) (upm_off 42 (by decide))
      have b3 := b2.add (x := (3, 0))
      rw [← e] at b3
      rw [er, if_pos q]
      refine ((c_releaseNots S ((3, 0) :: C) V1 ⟨b3, by rw [e, upm_off 4 (by decide), upm_off 4 (by decide), upm_s]⟩ (by omega) (by omega)).2).imp ?_
      rintro z V2 ⟨z0, z1, z3⟩
      exact ⟨z0, LFx.trans ⟨fun c p1 p2 p3 p4 => by rw [e, upm_off c p2, upm_off c p3, upm_off c p1, upm_off c p1], fun j p1 p2 => by rw [e, upm_off 4 (by decide), upm_off 4 (by decide), upm_k p2, upm_k p1]⟩ z1, z3⟩
    constructor
    · refine sX5_releaseNots ?_
      rw [h0, ix88 (e := S.length) (by omega), tn]
      refine ⟨fun q => by omega, fun _ => ⟨⟨by omega, by omega⟩, fun q => ⟨rfl, body q⟩, fun q => Mv.use (c_lawAdd (n := C.length) _ (by rw [upm_off 35 (by decide), upm_off 35 (by decide)]; exact h.1.2.2.1) (by omega)) (fun V1 e => more q V1 e)⟩⟩
    · refine sX5_releaseNots_0 ?_
      rw [h0, ix88 (e := S.length) (by omega), tn]
      refine ⟨fun q => by omega, fun _ => ⟨⟨by omega, by omega⟩, fun q => ⟨rfl, body q⟩, fun q => Mv.use (c_lawAdd (n := C.length) _ (by rw [upm_off 35 (by decide), upm_off 35 (by decide)]; exact h.1.2.2.1) (by omega)) (fun V1 e => more q V1 e)⟩⟩
theorem c_hold {x : Int} (h : LB V C S) (hs : S.length ≤ 31) : Mv K d mX5_hold [vR 4, vI x] V (fun V' => V' = upm (upm V 42 S.length x) 4 4 ((S.length + 1 : Nat) : Int)) := by
  refine sX5_hold x ?_
  rw [upm_off 4 (by decide), h.1, tn, w32_s (i := S.length) (by omega)]
  exact ⟨fun q => by omega, fun _ => ⟨fun q => by omega, fun _ => ⟨⟨by omega, by omega⟩, rfl, rfl⟩⟩⟩
theorem LB.hold {x : Int} (h : LB V C S) : LB (upm (upm V 42 S.length x) 4 4 ((S.length + 1 : Nat) : Int)) C (x :: S) :=
  ⟨upm_s _ _ _ _, ⟨by rw [upm_off 42 (by decide), upm_s], ystk_congr S (fun j hj => by rw [upm_off 42 (by decide), upm_k (by omega)]) h.2.1⟩, by rw [upm_off 35 (by decide), upm_off 35 (by decide)]; exact h.2.2.1, ycod_congr C (fun j _ => by rw [upm_off 36 (by decide), upm_off 36 (by decide)]) h.2.2.2⟩
end CYD
