/-! ===== the whole coupling ===== -/
abbrev kdV (V : Mem) (r : Nat) : Int := V 375 (3 + 22 * r)
/-- a word of l letters c, in base b -/
def pkw (b : Int) (c : Nat → Int) : Nat → Int
  | 0 => 0
  | l + 1 => pkw b c l * b + c l
def nmC (x y : Int) : Prop := ∃ (l : Nat) (c : Nat → Int), 1 ≤ l ∧ l ≤ 8 ∧ (∀ i, i < l → 1 ≤ c i ∧ c i ≤ 26) ∧ x = pkw 32 c l ∧ y = pkw 37 c l
def TapeC (V : Mem) : Prop := ∃ L : Nat, V 1 2 = L ∧ V 369 2 = L ∧ L ≤ 1000 ∧ ∀ k, k < L → V 2 k = V 370 k ∧ (V 370 k = 10 ∨ (32 ≤ V 370 k ∧ V 370 k ≤ 126))
/-- the words of the language, as the class and as the reference has them -/
def kw32 (i : Nat) : Int := [18935, 2688292, 777297171, 50861508, 3764, 677454, 3751539, 365744, 659104884, 758827, 147182, 632267, 14836, 1476, 498, 492210354, 17171557, 427481, 370116].getD i 0
def kw37 (i : Nat) : Int := [25220, 4661782, 1604747591, 100148348, 4904, 1042489, 6555494, 564229, 1355942609, 1171912, 224012, 975257, 19741, 1891, 573, 1010834209, 30595897, 660401, 570026].getD i 0
def KwC (V : Mem) : Prop := ∀ i, i < 19 → V 3 i = kw32 i ∧ V 374 i = kw37 i
/-- no name twice -/
def NmU (V : Mem) (R BT : Nat) : Prop := (∀ r s, r < R → s < R → V 377 r = V 377 s → r = s) ∧ ∀ r s, r < BT → s < BT → V 377 (4 + r) = V 377 (4 + s) → r = s
def ToldC (V : Mem) (R BT : Nat) : Prop := (V 73 5 = R ∧ V 375 0 = R ∧ R ≤ 4 ∧ V 73 6 = BT ∧ V 375 1 = BT ∧ BT ≤ 4 ∧ V 73 7 = 0) ∧ (∀ r, r < R → ∃ m : Nat, V (79 + 2 * r) 3 = m ∧ V 375 (4 + 22 * r) = m ∧ 1 ≤ m ∧ m ≤ 20 ∧ (∀ p, p < m → V (80 + 2 * r) p = V 375 (5 + 22 * r + p) ∧ 0 ≤ V 375 (5 + 22 * r + p) ∧ V 375 (5 + 22 * r + p) ≤ 99) ∧ V (79 + 2 * r) 2 = V 375 (3 + 22 * r) ∧ 0 ≤ V 375 (3 + 22 * r) ∧ V 375 (3 + 22 * r) ≤ 3 ∧ nmC (V (79 + 2 * r) 1) (V 377 r)) ∧ (∀ k, k < BT → ∃ n : Nat, V (87 + 2 * k) 2 = n ∧ V 375 (91 + 11 * k) = n ∧ 1 ≤ n ∧ n ≤ 10 ∧ V (87 + 2 * k) 3 = k ∧ (∀ s, s < n → V (88 + 2 * k) s = V 375 (92 + 11 * k + s)) ∧ PermOK (fun s => V 375 (92 + 11 * k + s)) n ∧ nmC (V (87 + 2 * k) 1) (V 377 (4 + k))) ∧ NmU V R BT
def LawC (V : Mem) (P : Nat → Int × Int) (n : Nat) : Prop := lawX V 135 P n ∧ lawM V P n ∧ wfP P n ∧ (V 375 2 = -1 ∨ V 375 2 = 0)
def Live (V : Mem) (R B S : Nat) : Prop := CpRw V 43 (V 381) (kdV V) R ∧ CpB0 V 43 (V 381) B ∧ CpMd V 43 (V 381) B ∧ Seen V 43 (V 381) S
def MkC (V : Mem) (R : Nat) : Prop := ∀ m, m < 4 → (V 134 m = 0 ∨ V 134 m = 1) ∧ V 382 m = V 134 m ∧ (V 134 m = 1 → ∃ B S : Nat, CpRw V (249 + 30 * m) (bk V (206 * (1 + m))) (kdV V) R ∧ CpB0 V (249 + 30 * m) (bk V (206 * (1 + m))) B ∧ CpMd V (249 + 30 * m) (bk V (206 * (1 + m))) B ∧ Seen V (249 + 30 * m) (bk V (206 * (1 + m))) S)
/-- from the newer block g' back to the older g -/
def Lnk (v w x : Int) (R : Nat) (g' g : Nat → Int) : Prop := (v = 131 ∧ ∃ i : Nat, w = i ∧ i < R ∧ 1 ≤ g i ∧ Lcut i g' g) ∨ (v = 132 ∧ ∃ i : Nat, w = i ∧ i < R ∧ (0 ≤ x ∧ x ≤ 99) ∧ g' i < 20 ∧ Lapp i x g' g) ∨ (v = 133 ∧ ∃ i : Nat, w = i ∧ i < R ∧ Ltrn i g' g) ∨ (v = 134 ∧ ∃ i : Nat, w = i ∧ i < 8 ∧ (i : Int) < g' 84 ∧ 0 ≤ x ∧ x + 1 < (g' (85 + i)).toNat ∧ (g' (85 + i)).toNat ≤ 10 ∧ Lcrs i x g' g) ∨ (v = 135 ∧ 0 ≤ g 84 ∧ g 84 < 8 ∧ Ldrp g' g)
def hbk (V : Mem) (U k : Nat) (i : Nat) : Int := if k < U then V 381 (206 * (5 + k) + i) else V 381 i
/-- rows of a block are of 1 to 20 numbers -/
def gOK (R : Nat) (g : Nat → Int) : Prop := ∀ r, r < R → 1 ≤ g r ∧ g r ≤ 20
def HsC (V : Mem) (R : Nat) : Prop := ∃ U : Nat, U ≤ 16 ∧ V 142 3 = U ∧ V 369 18 = U ∧ (∀ k, k ≤ U → gOK R (hbk V U k)) ∧ ∀ k, k < U → Lnk (V 143 k) (V 144 k) (V 145 k) R (hbk V U (k + 1)) (hbk V U k)
def LnC (V : Mem) (R BT : Nat) : Prop := ∃ n : Nat, V 138 3 = n ∧ V 378 0 = n ∧ n ≤ 30 ∧ ∀ i, i < n → V 139 i = 131 + V 378 (1 + 3 * i) ∧ V 140 i = V 378 (2 + 3 * i) ∧ V 141 i = V 378 (3 + 3 * i) ∧ ((V 378 (1 + 3 * i) = 0 ∧ (0 ≤ V 378 (2 + 3 * i) ∧ V 378 (2 + 3 * i) < R) ∧ 0 ≤ V 378 (3 + 3 * i) ∧ V 378 (3 + 3 * i) ≤ 99) ∨ ((V 378 (1 + 3 * i) = 1 ∨ V 378 (1 + 3 * i) = 2) ∧ 0 ≤ V 378 (2 + 3 * i) ∧ V 378 (2 + 3 * i) < R) ∨ (V 378 (1 + 3 * i) = 3 ∧ (0 ≤ V 378 (2 + 3 * i) ∧ V 378 (2 + 3 * i) < BT) ∧ 0 ≤ V 378 (3 + 3 * i) ∧ V 378 (3 + 3 * i) ≤ 8) ∨ (V 378 (1 + 3 * i) = 4 ∧ (0 ≤ V 378 (2 + 3 * i) ∧ V 378 (2 + 3 * i) < BT) ∧ 0 ≤ V 378 (3 + 3 * i) ∧ V 378 (3 + 3 * i) < BT))
/-- what holds between two calls -/
def Inv (V : Mem) : Prop := ∃ (P : Nat → Int × Int) (n R B S BT : Nat), TapeC V ∧ KwC V ∧ ToldC V R BT ∧ LawC V P n ∧ Live V R B S ∧ MkC V R ∧ HsC V R ∧ LnC V R BT ∧ V 0 17 = V 369 19
/-! each part, in a memory that has its cells -/
theorem TapeC.congr {V V' : Mem} (h : TapeC V) (h1 : V' 1 2 = V 1 2) (h2 : V' 2 = V 2) (h3 : V' 370 = V 370) (h4 : V' 369 2 = V 369 2) : TapeC V' := by
  obtain ⟨L, a, b, c, d⟩ := h
  exact ⟨L, by rw [h1]; exact a, by rw [h4]; exact b, c, by rw [h2, h3]; exact d⟩
theorem KwC.congr {V V' : Mem} (h : KwC V) (h1 : V' 3 = V 3) (h2 : V' 374 = V 374) : KwC V' := by
  unfold KwC
  rw [h1, h2]
  exact h
theorem ToldC.congr {V V' : Mem} {R BT : Nat} (h : ToldC V R BT) (h1 : ∀ c, 73 ≤ c → c ≤ 102 → V' c = V c) (h2 : V' 375 = V 375) (h3 : V' 377 = V 377) : ToldC V' R BT := by
  obtain ⟨⟨a1, a2, a3, a4, a5, a6, a7⟩, b, c, u⟩ := h
  unfold ToldC NmU
  rw [h2, h3, h1 73 (by omega) (by omega)]
  refine ⟨⟨a1, a2, a3, a4, a5, a6, a7⟩, fun r hr => ?_, fun k hk => ?_, u⟩
  · rw [h1 (79 + 2 * r) (by omega) (by omega), h1 (80 + 2 * r) (by omega) (by omega)]
    exact b r hr
  · rw [h1 (87 + 2 * k) (by omega) (by omega), h1 (88 + 2 * k) (by omega) (by omega)]
    exact c k hk
theorem LawC.congr {V V' : Mem} {P : Nat → Int × Int} {n : Nat} (h : LawC V P n) (h1 : V' 135 = V 135) (h2 : V' 136 = V 136) (h3 : V' 375 2 = V 375 2) (h4 : ∀ j, j < 1100 → V' 376 j = V 376 j) : LawC V' P n := by
  obtain ⟨⟨a1, a2, a3⟩, b, c, d⟩ := h
  refine ⟨⟨by rw [h1]; exact a1, a2, fun i hi => by rw [show (135 + 1 : Nat) = 136 from rfl, h2]; exact a3 i hi⟩, ?_, c, by rw [h3]; exact d⟩
  rcases b with ⟨q1, q2, q3⟩ | ⟨o, q1, q2, q3, q4⟩
  · exact Or.inl ⟨by rw [h3]; exact q1, q2, q3⟩
  · have ho : o = 0 := by omega
    subst ho
    exact Or.inr ⟨0, by rw [h3]; exact q1, q2, fun i hi => by rw [h4 _ (by omega)]; exact q3 i hi, by rw [h4 _ (by omega)]; exact q4⟩
theorem Seen.congr {V V' : Mem} {a S : Nat} {g g' : Nat → Int} (h : Seen V a g S) (h1 : V' a 7 = V a 7) (h2 : V' (a + 3) = V (a + 3)) (h3 : V' (a + 4) = V (a + 4)) (h4 : V' (a + 5) = V (a + 5)) (hg : ∀ i, 181 ≤ i → i < 206 → g' i = g i) : Seen V' a g' S := by
  obtain ⟨a1, a2, a3, a4⟩ := h
  refine ⟨by rw [h1]; exact a1, by rw [hg 181 (by omega) (by omega)]; exact a2, a3, fun i hi => ?_⟩
  rw [h2, h3, h4, hg _ (by omega) (by omega), hg _ (by omega) (by omega), hg _ (by omega) (by omega)]
  exact a4 i hi
theorem CpRw.kd {V : Mem} {a R : Nat} {g kd kd' : Nat → Int} (h : CpRw V a g kd R) (hk : ∀ r, r < R → kd' r = kd r) : CpRw V a g kd' R := ⟨h.1, h.2.1, fun r hr => by rw [hk r hr]; exact h.2.2 r hr⟩
/-- a store and a block, in a memory that has their cells -/
theorem st_congr {V V' : Mem} {a R B S : Nat} {g g' kd : Nat → Int} (h : CpRw V a g kd R ∧ CpB0 V a g B ∧ CpMd V a g B ∧ Seen V a g S) (h1 : ∀ c, a ≤ c → c ≤ a + 29 → V' c = V c) (hg : ∀ i, i < 206 → g' i = g i) : CpRw V' a g' kd R ∧ CpB0 V' a g' B ∧ CpMd V' a g' B ∧ Seen V' a g' S := by
  obtain ⟨a1, a2, a3, a4⟩ := h
  have hR := a1.2.1
  have hB := a2.2.2.1
  refine ⟨a1.congr (by rw [h1 a (by omega) (by omega)]) (fun r hr => ⟨h1 _ (by omega) (by omega), h1 _ (by omega) (by omega)⟩) (fun i hi => hg i (by omega)), a2.congr (by rw [h1 a (by omega) (by omega)]) (fun k hk => ⟨by rw [h1 _ (by omega) (by omega)], h1 _ (by omega) (by omega)⟩) (fun i _ _ => hg i (by omega)), a3.congr hB (fun k hk => by rw [h1 _ (by omega) (by omega)]) (fun i _ _ => hg i (by omega)), a4.congr (by rw [h1 a (by omega) (by omega)]) (h1 _ (by omega) (by omega)) (h1 _ (by omega) (by omega)) (h1 _ (by omega) (by omega)) (fun i _ _ => hg i (by omega))⟩
theorem Live.congr {V V' : Mem} {R B S : Nat} (h : Live V R B S) (h1 : ∀ c, 43 ≤ c → c ≤ 72 → V' c = V c) (h2 : V' 375 = V 375) (h3 : ∀ i, i < 206 → V' 381 i = V 381 i) : Live V' R B S := by
  unfold Live
  have e : kdV V' = kdV V := by funext r; show V' 375 _ = V 375 _; rw [h2]
  rw [e]
  exact st_congr h h1 h3
theorem MkC.congr {V V' : Mem} {R : Nat} (h : MkC V R) (h1 : V' 134 = V 134) (h2 : V' 382 = V 382) (h3 : V' 375 = V 375) (h4 : ∀ c, 249 ≤ c → c ≤ 368 → V' c = V c) (h5 : ∀ j, 206 ≤ j → j < 1030 → V' 381 j = V 381 j) : MkC V' R := by
  have e : kdV V' = kdV V := by funext r; show V' 375 _ = V 375 _; rw [h3]
  intro m hm
  obtain ⟨a1, a2, a3⟩ := h m hm
  rw [h1, h2, e]
  refine ⟨a1, a2, fun q => ?_⟩
  obtain ⟨B, S, b⟩ := a3 q
  exact ⟨B, S, st_congr b (fun c _ _ => h4 c (by omega) (by omega)) (fun i hi => h5 _ (by omega) (by omega))⟩
theorem LnC.congr {V V' : Mem} {R BT : Nat} (h : LnC V R BT) (h1 : ∀ c, 138 ≤ c → c ≤ 141 → V' c = V c) (h2 : V' 378 = V 378) : LnC V' R BT := by
  unfold LnC
  rw [h1 138 (by omega) (by omega), h1 139 (by omega) (by omega), h1 140 (by omega) (by omega), h1 141 (by omega) (by omega), h2]
  exact h
theorem Lapp.congr {w : Nat} {x : Int} {g g' k k' : Nat → Int} (h : Lapp w x g g') (hw : w < 4) (h0 : 0 ≤ g w ∧ g w ≤ 20) (h1 : ∀ i, i < 181 → k i = g i) (h2 : ∀ i, i < 181 → k' i = g' i) : Lapp w x k k' := by
  obtain ⟨a1, a2, a3⟩ := h
  unfold Lapp
  rw [h1 w (by omega), h2 w (by omega), h2 _ (by omega)]
  exact ⟨a1, a2, fun i q1 q2 q3 => by rw [h1 i q1, h2 i q1]; exact a3 i q1 q2 q3⟩
theorem Lcut.congr {w : Nat} {g g' k k' : Nat → Int} (h : Lcut w g g') (hw : w < 4) (h1 : ∀ i, i < 181 → k i = g i) (h2 : ∀ i, i < 181 → k' i = g' i) : Lcut w k k' := by
  obtain ⟨a1, a2⟩ := h
  unfold Lcut
  rw [h1 w (by omega), h2 w (by omega)]
  exact ⟨a1, fun i q1 q2 q3 => by rw [h1 i q1, h2 i q1]; exact a2 i q1 q2 q3⟩
theorem Ltrn.congr {w : Nat} {g g' k k' : Nat → Int} (h : Ltrn w g g') (hw : w < 4) (h0 : (g w).toNat ≤ 20) (h1 : ∀ i, i < 181 → k i = g i) (h2 : ∀ i, i < 181 → k' i = g' i) : Ltrn w k k' := by
  obtain ⟨a1, a2, a3⟩ := h
  unfold Ltrn
  rw [h1 w (by omega), h2 w (by omega)]
  exact ⟨a1, fun p hp => by rw [h2 _ (by omega), h1 _ (by omega)]; exact a2 p hp, fun i q1 q2 => by rw [h1 i q1, h2 i q1]; exact a3 i q1 q2⟩
theorem Lcrs.congr {w : Nat} {x : Int} {g g' k k' : Nat → Int} (h : Lcrs w x g g') (hw : w < 8) (h0 : (g (85 + w)).toNat ≤ 10) (h1 : ∀ i, i < 181 → k i = g i) (h2 : ∀ i, i < 181 → k' i = g' i) : Lcrs w x k k' := by
  obtain ⟨a1, a2⟩ := h
  unfold Lcrs
  rw [h1 (85 + w) (by omega)]
  exact ⟨fun s hs => by rw [h2 _ (by omega), h1 _ (by omega)]; exact a1 s hs, fun i q1 q2 => by rw [h1 i q1, h2 i q1]; exact a2 i q1 q2⟩
theorem Ldrp.congr {g g' k k' : Nat → Int} (h : Ldrp g g') (h1 : ∀ i, i < 181 → k i = g i) (h2 : ∀ i, i < 181 → k' i = g' i) : Ldrp k k' := by
  obtain ⟨a1, a2⟩ := h
  unfold Ldrp
  rw [h1 84 (by omega), h2 84 (by omega)]
  exact ⟨a1, fun i q1 q2 q3 q4 q5 => by rw [h1 i q1, h2 i q1]; exact a2 i q1 q2 q3 q4 q5⟩
theorem Lnk.congr {v w x : Int} {R : Nat} {g' g k' k : Nat → Int} (h : Lnk v w x R g' g) (hR : R ≤ 4) (h0 : gOK R g') (h1 : ∀ i, i < 181 → k' i = g' i) (h2 : ∀ i, i < 181 → k i = g i) : Lnk v w x R k' k := by
  rcases h with ⟨e, i, a1, a2, a3, a4⟩ | ⟨e, i, a1, a2, a3, a4, a5⟩ | ⟨e, i, a1, a2, a3⟩ | ⟨e, i, a1, a2, a3, a4, a5, a6, a7⟩ | ⟨e, a1, a2, a3⟩
  · exact Or.inl ⟨e, i, a1, a2, by rw [h2 i (by omega)]; exact a3, a4.congr (by omega) h1 h2⟩
  · have := h0 i a2
    exact Or.inr (Or.inl ⟨e, i, a1, a2, a3, by rw [h1 i (by omega)]; exact a4, a5.congr (by omega) (by omega) h1 h2⟩)
  · have := h0 i a2
    exact Or.inr (Or.inr (Or.inl ⟨e, i, a1, a2, a3.congr (by omega) (by omega) h1 h2⟩))
  · exact Or.inr (Or.inr (Or.inr (Or.inl ⟨e, i, a1, a2, by rw [h1 84 (by omega)]; exact a3, a4, by rw [h1 (85 + i) (by omega)]; exact a5, by rw [h1 (85 + i) (by omega)]; exact a6, a7.congr a2 a6 h1 h2⟩)))
  · exact Or.inr (Or.inr (Or.inr (Or.inr ⟨e, by rw [h2 84 (by omega)]; exact a1, by rw [h2 84 (by omega)]; exact a2, a3.congr h1 h2⟩)))
theorem hbk_lt {V : Mem} {U k : Nat} (h : k < U) (i : Nat) : hbk V U k i = V 381 (206 * (5 + k) + i) := if_pos h
theorem hbk_ge {V : Mem} {U k : Nat} (h : ¬ k < U) (i : Nat) : hbk V U k i = V 381 i := if_neg h
theorem HsC.congr {V V' : Mem} {R : Nat} (h : HsC V R) (hR : R ≤ 4) (h1 : ∀ c, 142 ≤ c → c ≤ 145 → V' c = V c) (h2 : V' 369 18 = V 369 18) (h3 : ∀ j, j < 181 ∨ (1030 ≤ j ∧ j < 4326) → V' 381 j = V 381 j) : HsC V' R := by
  obtain ⟨U, u1, u2, u3, u4, u5⟩ := h
  have e : ∀ k i, k ≤ U → i < 181 → hbk V' U k i = hbk V U k i := fun k i hk hi => by
    by_cases c : k < U
    · rw [hbk_lt c, hbk_lt c]; exact h3 _ (by omega)
    · rw [hbk_ge c, hbk_ge c]; exact h3 _ (by omega)
  refine ⟨U, u1, by rw [h1 142 (by omega) (by omega)]; exact u2, by rw [h2]; exact u3, fun k hk r hr => by rw [e k r hk (by omega)]; exact u4 k hk r hr, fun k hk => ?_⟩
  rw [h1 143 (by omega) (by omega), h1 144 (by omega) (by omega), h1 145 (by omega) (by omega)]
  exact (u5 k hk).congr hR (u4 (k + 1) (by omega)) (fun i hi => e _ _ (by omega) hi) (fun i hi => e _ _ (by omega) hi)
/-- a deed is added -/
theorem HsC.push {V V' : Mem} {R U : Nat} {x y z : Int} (h : HsC V R) (hR : R ≤ 4) (hU : V 142 3 = U) (hd : DdAd V V' 142 (if U = 16 then U - 1 else U) (if U = 16 then 1 else 0) x y z) (h18 : V' 369 18 = (((if U = 16 then U - 1 else U) + 1 : Nat) : Int)) (hk : ∀ k i, k < (if U = 16 then U - 1 else U) → i < 181 → V' 381 (206 * (5 + k) + i) = V 381 (206 * (5 + (k + (if U = 16 then 1 else 0))) + i)) (hn : ∀ i, i < 181 → V' 381 (206 * (5 + (if U = 16 then U - 1 else U)) + i) = V 381 i) (hg : gOK R (V' 381)) (hl : Lnk x y z R (V' 381) (V 381)) : HsC V' R := by
  obtain ⟨U', u1, u2, u3, u4, u5⟩ := h
  have : U' = U := by omega
  subst this
  obtain ⟨N, sh, hN, hsh, hNs, hN15⟩ : ∃ N sh : Nat, (if U' = 16 then U' - 1 else U') = N ∧ (if U' = 16 then 1 else 0) = sh ∧ N + sh = U' ∧ N < 16 := by
    by_cases c : U' = 16
    · exact ⟨15, 1, by rw [if_pos c]; omega, by rw [if_pos c], by omega, by omega⟩
    · exact ⟨U', 0, by rw [if_neg c], by rw [if_neg c], by omega, by omega⟩
  rw [hN] at hd h18 hk hn
  rw [hsh] at hd hk
  obtain ⟨d1, d2, d3, d4, d5⟩ := hd
  have e1 : ∀ k i, k ≤ N → i < 181 → hbk V' (N + 1) k i = hbk V U' (k + sh) i := fun k i q1 q2 => by
    rw [hbk_lt (by omega)]
    by_cases c : k < N
    · rw [hbk_lt (by omega)]; exact hk k i c q2
    · rw [show k = N by omega, hNs, hbk_ge (by omega)]; exact hn i q2
  have e2 : ∀ i, hbk V' (N + 1) (N + 1) i = V' 381 i := fun i => hbk_ge (by omega) i
  refine ⟨N + 1, by omega, d1, h18, fun k q r hr => ?_, fun k q => ?_⟩
  · by_cases c : k ≤ N
    · rw [e1 k r c (by omega)]; exact u4 _ (by omega) r hr
    · rw [show k = N + 1 by omega, e2]; exact hg r hr
  · by_cases c : k < N
    · obtain ⟨f1, f2, f3⟩ := d2 k c
      rw [show (143 : Nat) = 142 + 1 from rfl, show (144 : Nat) = 142 + 2 from rfl, show (145 : Nat) = 142 + 3 from rfl, f1, f2, f3]
      have := u5 (k + sh) (by omega)
      exact this.congr hR (u4 _ (by omega)) (fun i hi => by rw [e1 (k + 1) i (by omega) hi, show k + 1 + sh = k + sh + 1 by omega]) (fun i hi => e1 k i (by omega) hi)
    · have ek : k = N := by omega
      subst ek
      rw [show (143 : Nat) = 142 + 1 from rfl, show (144 : Nat) = 142 + 2 from rfl, show (145 : Nat) = 142 + 3 from rfl, d3, d4, d5]
      exact hl.congr hR hg (fun i _ => e2 i) (fun i hi => by rw [e1 k i (Nat.le_refl _) hi, hNs, hbk_ge (by omega)])
