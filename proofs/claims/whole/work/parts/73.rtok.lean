/-! ===== the reference at a token ===== -/
/-- the reference stands at the token i of N -/
def RS (V : Mem) (t : Nat → Int) (L N i : Nat) : Prop := V 369 7 = (i : Int) ∧ i ≤ N ∧ N ≤ 1000 ∧ (∀ j, j ≤ N → RT V t L j) ∧ ∀ k, k < 19 → V 374 k = kw37 k
/-- a fault, and where -/
def ftT (t : Nat → Int) (L i : Nat) (w : Int) : Int := w + 16 * (psT t L i : Nat)
theorem rso_w {g : Nat} : rso g = 1 ↔ g = 2 := by
  unfold rso
  split
  · exact ⟨fun q => absurd q (by decide), fun q => by omega⟩
  · split
    · exact ⟨fun _ => by assumption, fun _ => rfl⟩
    · split
      · exact ⟨fun q => absurd q (by decide), fun q => by omega⟩
      · split
        · exact ⟨fun q => absurd q (by decide), fun q => by omega⟩
        · exact ⟨fun q => absurd q (by decide), fun q => by omega⟩
theorem rso_n {g : Nat} : rso g = 2 ↔ g = 3 := by
  unfold rso
  split
  · exact ⟨fun q => absurd q (by decide), fun q => by omega⟩
  · split
    · exact ⟨fun q => absurd q (by decide), fun q => by omega⟩
    · split
      · exact ⟨fun _ => by assumption, fun _ => rfl⟩
      · split
        · exact ⟨fun q => absurd q (by decide), fun q => by omega⟩
        · exact ⟨fun q => absurd q (by decide), fun q => by omega⟩
theorem rso_s {g : Nat} : rso g = 3 ↔ g = 4 := by
  unfold rso
  split
  · exact ⟨fun q => absurd q (by decide), fun q => by omega⟩
  · split
    · exact ⟨fun q => absurd q (by decide), fun q => by omega⟩
    · split
      · exact ⟨fun q => absurd q (by decide), fun q => by omega⟩
      · split
        · exact ⟨fun _ => by assumption, fun _ => rfl⟩
        · exact ⟨fun q => absurd q (by decide), fun q => by omega⟩
theorem rso_0 {g : Nat} : rso g = 0 ↔ g = 0 := by
  unfold rso
  split
  · exact ⟨fun _ => by assumption, fun _ => rfl⟩
  · split
    · exact ⟨fun q => absurd q (by decide), fun q => by omega⟩
    · split
      · exact ⟨fun q => absurd q (by decide), fun q => by omega⟩
      · split
        · exact ⟨fun q => absurd q (by decide), fun q => by omega⟩
        · exact ⟨fun q => absurd q (by decide), fun q => by omega⟩
theorem psT_le {t : Nat → Int} {L : Nat} : ∀ i, bpT t L i ≤ L ∧ psT t L i ≤ L
  | 0 => ⟨Nat.zero_le _, (rnK_b (P := isBb) (t := t) (Nat.zero_le L)).2.1⟩
  | i + 1 => by
    have ih := psT_le (t := t) (L := L) i
    have e : bpT t L (i + 1) = tkE t L (psT t L i) := rfl
    have h : bpT t L (i + 1) ≤ L := by
      rw [e]
      by_cases c : psT t L i < L
      · exact (tkE_b c).2
      · unfold tkE
        rw [if_pos (by omega)]
        exact ih.2
    exact ⟨h, (rnK_b (P := isBb) (t := t) h).2.1⟩
/-- only 369's place and fault, and the drafts, may change -/
theorem RS.mov {V V' : Mem} {t : Nat → Int} {L N i j : Nat} (h : RS V t L N i) (h1 : V' 369 7 = (j : Int)) (hj : j ≤ N) (h2 : V' 371 = V 371) (h3 : V' 372 = V 372) (h4 : V' 373 = V 373) (h5 : V' 374 = V 374) : RS V' t L N j := by
  obtain ⟨_, _, a3, a4, a5⟩ := h
  exact ⟨h1, hj, a3, fun m hm => (a4 m hm).congr (by rw [h2]) (by rw [h3]) (by rw [h4]), fun k hk => by rw [h5]; exact a5 k hk⟩
section RTK
variable {K : KK} {d : Nat} {V : Mem} {t : Nat → Int} {L N i : Nat}
theorem ftT_w {w : Int} (hL : L ≤ 1000) (hw : 0 ≤ w ∧ w ≤ 9) : w32 (w + w32 (16 * (psT t L i : Nat))) = ftT t L i w := by
  have := (psT_le (t := t) (L := L) i).2
  unfold ftT
  generalize psT t L i = p at *
  rw [w32_id (x := 16 * (p : Int)) (by omega) (by omega), w32_id (by omega) (by omega)]
theorem m_wrong {w : Int} (h : RS V t L N i) (hL : L ≤ 1000) (hw : 0 ≤ w ∧ w ≤ 9) (h8 : V 369 8 = 0) : Mv K d mX12_wrong [vR 369, vI w] V (fun V' => V' = upm V 369 8 (ftT t L i w)) := by
  obtain ⟨a1, a2, a3, a4, a5⟩ := h
  refine sX12_wrong _ ⟨fun c => absurd h8 c, fun _ => ⟨by rw [a1]; exact ⟨by omega, by omega⟩, rfl, ?_⟩⟩
  rw [a1, tn, (a4 i a2).1, ftT_w hL hw]
theorem m_isSign0 {s : Int} (h8 : V 369 8 ≠ 0) : Pu K d mX12_isSign [vR 369, vI s] V 0 := sX12_isSign s ⟨fun _ => ⟨_, rfl, rfl, rfl⟩, fun c => absurd c h8⟩
theorem m_isSign {s : Int} (h : RS V t L N i) (hs : isSb s = true) (h8 : V 369 8 = 0) : Pu K d mX12_isSign [vR 369, vI s] V (if cT t L i = s then 1 else 0) := by
  obtain ⟨a1, a2, a3, a4, a5⟩ := h
  obtain ⟨b1, b2, b3, b4, b5⟩ := a4 i a2
  have e : cT t L i = s ↔ tkG t L (psT t L i) = 4 ∧ t (psT t L i) = s := tk_sign (t := t) (L := L) (p := psT t L i) hs
  refine sX12_isSign s ⟨fun c => absurd h8 c, fun _ => ?_⟩
  rw [a1, tn, b2, rso_s]
  refine ⟨⟨by omega, by omega⟩, fun c => ⟨0, rfl, ?_, rfl⟩, fun c => ⟨⟨by omega, by omega⟩, ?_⟩⟩
  · rw [if_neg (fun q => c (e.1 q).1)]
  · rw [lc0, b5 c]
    refine ⟨fun c2 => ⟨0, rfl, ?_, rfl⟩, fun c2 => ⟨1, rfl, ?_, rfl⟩⟩
    · rw [if_neg (fun q => c2 (e.1 q).2)]
    · rw [if_pos (show cT t L i = s from e.2 ⟨c, c2⟩)]
theorem m_isWord0 {s : Int} (h8 : V 369 8 ≠ 0) : Pu K d mX12_isWord [vR 369, vI s] V 0 := sX12_isWord s ⟨fun _ => ⟨_, rfl, rfl, rfl⟩, fun c => absurd c h8⟩
theorem m_isWord {k : Nat} (h : RS V t L N i) (hk : k < 19) (h8 : V 369 8 = 0) : Pu K d mX12_isWord [vR 369, vI (k : Int)] V (if cT t L i = 128 + (k : Int) then 1 else 0) := by
  obtain ⟨a1, a2, a3, a4, a5⟩ := h
  obtain ⟨b1, b2, b3, b4, b5⟩ := a4 i a2
  have e : cT t L i = 128 + (k : Int) ↔ tkG t L (psT t L i) = 2 ∧ tkW 37 t L (psT t L i) = kw37 k := tk_word (t := t) (L := L) (p := psT t L i) hk
  refine sX12_isWord _ ⟨fun c => absurd h8 c, fun _ => ?_⟩
  rw [a1, tn, b2, rso_w]
  refine ⟨⟨by omega, by omega⟩, fun c => ⟨0, rfl, ?_, rfl⟩, fun c => ⟨⟨by omega, by omega⟩, ⟨by omega, by omega⟩, ?_⟩⟩
  · rw [if_neg (fun q => c (e.1 q).1)]
  · rw [lc0, tn, a5 k hk, b3 c]
    refine ⟨fun c2 => ⟨0, rfl, ?_, rfl⟩, fun c2 => ⟨1, rfl, ?_, rfl⟩⟩
    · rw [if_neg (fun q => c2 (e.1 q).2)]
    · rw [if_pos (show cT t L i = 128 + (k : Int) from e.2 ⟨c, c2⟩)]
/-- the next token, or a fault -/
theorem m_takeSign0 {s : Int} (h8 : V 369 8 ≠ 0) : Mv K (d + 1) mX12_takeSign [vR 369, vI s] V (fun V' => V' = V) := by
  refine sX12_takeSign s ((m_isSign0 (d := d) h8).use ⟨fun _ => ⟨fun _ => ⟨rfl, rfl⟩, fun c => absurd c h8⟩, fun c => absurd rfl c⟩)
theorem m_takeSign {s : Int} (h : RS V t L N i) (hL : L ≤ 1000) (hs : isSb s = true) (h8 : V 369 8 = 0) : Mv K (d + 1) mX12_takeSign [vR 369, vI s] V (fun V' => V' = if cT t L i = s then upm V 369 7 ((i + 1 : Nat) : Int) else upm V 369 8 (ftT t L i 1)) := by
  refine sX12_takeSign s ((m_isSign (d := d) h hs h8).use ?_)
  obtain ⟨a1, a2, a3, a4, a5⟩ := h
  by_cases c : cT t L i = s
  · rw [if_pos c, if_pos c]
    refine ⟨fun q => absurd q (by decide), fun _ => ⟨rfl, ?_⟩⟩
    rw [a1, w32_s (i := i) (by omega)]
  · rw [if_neg c, if_neg c]
    refine ⟨fun _ => ⟨fun q => absurd h8 q, fun _ => ⟨by rw [a1]; exact ⟨by omega, by omega⟩, rfl, ?_⟩⟩, fun q => absurd rfl q⟩
    rw [a1, tn, (a4 i a2).1, ftT_w hL (by omega)]
theorem upm_id {V : Mem} {c j : Nat} {v : Int} (h : V c j = v) : upm V c j v = V := by
  funext a b
  by_cases ha : a = c
  · by_cases hb : b = j
    · rw [ha, hb, upm_s, h]
    · rw [ha, upm_k hb]
  · rw [upm_off a ha]
theorem m_hasSign {s : Int} (h : RS V t L N i) (hs : isSb s = true) (h8 : V 369 8 = 0) : Mi K (d + 1) mX12_hasSign [vR 369, vI s] V (fun z V' => z = (if cT t L i = s then 1 else 0) ∧ V' = if cT t L i = s then upm V 369 7 ((i + 1 : Nat) : Int) else V) := by
  refine sX12_hasSign s ((m_isSign (d := d) h hs h8).use ?_)
  obtain ⟨a1, a2, a3, a4, a5⟩ := h
  by_cases c : cT t L i = s
  · rw [if_pos c, if_pos c]
    refine ⟨fun q => absurd q (by decide), fun _ => ⟨Or.inr rfl, _, rfl, rfl, ?_⟩⟩
    rw [a1, w32_s (i := i) (by omega)]
  · rw [if_neg c, if_neg c]
    refine ⟨fun _ => ⟨Or.inl rfl, _, rfl, rfl, ?_⟩, fun q => absurd rfl q⟩
    rw [a1, Int.add_zero, w32_n (i := i) (by omega)]
    exact upm_id a1
theorem m_hasWord {k : Nat} (h : RS V t L N i) (hk : k < 19) (h8 : V 369 8 = 0) : Mi K (d + 1) mX12_hasWord [vR 369, vI (k : Int)] V (fun z V' => z = (if cT t L i = 128 + (k : Int) then 1 else 0) ∧ V' = if cT t L i = 128 + (k : Int) then upm V 369 7 ((i + 1 : Nat) : Int) else V) := by
  refine sX12_hasWord _ ((m_isWord (d := d) h hk h8).use ?_)
  obtain ⟨a1, a2, a3, a4, a5⟩ := h
  by_cases c : cT t L i = 128 + (k : Int)
  · rw [if_pos c, if_pos c]
    refine ⟨fun q => absurd q (by decide), fun _ => ⟨Or.inr rfl, _, rfl, rfl, ?_⟩⟩
    rw [a1, w32_s (i := i) (by omega)]
  · rw [if_neg c, if_neg c]
    refine ⟨fun _ => ⟨Or.inl rfl, _, rfl, rfl, ?_⟩, fun q => absurd rfl q⟩
    rw [a1, Int.add_zero, w32_n (i := i) (by omega)]
    exact upm_id a1
theorem m_hasSign0 {s : Int} (h8 : V 369 8 ≠ 0) (h7 : V 369 7 = (i : Int)) (hi : i ≤ 1001) : Pu K (d + 1) mX12_hasSign [vR 369, vI s] V 0 := by
  refine sX12_hasSign s ((m_isSign0 (d := d) h8).use ⟨fun _ => ⟨Or.inl rfl, _, rfl, rfl, ?_⟩, fun c => absurd rfl c⟩)
  rw [h7, Int.add_zero, w32_n (i := i) (by omega)]
  exact upm_id h7
/-- which of the words from..from + many - 1 is here -/
def whT (c : Int) (from_ many : Nat) : Int := if 128 + (from_ : Int) ≤ c ∧ c < 128 + (from_ : Int) + (many : Int) then c - 128 - (from_ : Int) else -1
theorem m_wordHere {a m : Nat} (h : RS V t L N i) (ha : a + m ≤ 19) (h8 : V 369 8 = 0) : Pu K (d + 1) mX12_wordHere [vR 369, vI (a : Int), vI (m : Int)] V (whT (cT t L i) a m) := by
  refine sX12_wordHere _ _ ?_
  have wqA : ∀ k, k ≤ m → Wf K (d + 1) mX12_wordHere 5 [some (vR 369), some (vI (a : Int)), some (vI (m : Int)), some (vI (whT (cT t L i) a k)), some (vI (k : Int))] [] V (fun r V' => ∃ z, r = some (vI z) ∧ z = whT (cT t L i) a m ∧ V' = V) := by
    refine up_ind ?_ ?_
    · exact sX12_wordHere_5 _ _ _ _ ⟨fun _ => ⟨_, rfl, rfl, rfl⟩, fun c => absurd (Int.le_refl _) c⟩
    · intro k hk ih
      have e : w32 ((a : Int) + (k : Int)) = ((a + k : Nat) : Int) := by rw [w32_id (by omega) (by omega)]; omega
      refine sX12_wordHere_5 _ _ _ _ ⟨fun c => by omega, fun _ => ?_⟩
      rw [e, w32_s (i := k) (by omega)]
      clear e
      refine (m_isWord (d := d) (k := a + k) h (by omega) h8).use ?_
      by_cases c : cT t L i = 128 + ((a + k : Nat) : Int)
      · rw [if_pos c]
        refine ⟨fun q => absurd q (by decide), fun _ => ?_⟩
        have e2 : whT (cT t L i) a (k + 1) = (k : Int) := by unfold whT; rw [c, if_pos (by omega)]; omega
        rw [e2] at ih
        exact ih
      · rw [if_neg c]
        refine ⟨fun _ => ?_, fun q => absurd rfl q⟩
        have e2 : whT (cT t L i) a (k + 1) = whT (cT t L i) a k := by
          unfold whT
          by_cases c2 : 128 + (a : Int) ≤ cT t L i ∧ cT t L i < 128 + (a : Int) + (k : Int)
          · rw [if_pos c2, if_pos (by omega)]
          · rw [if_neg c2, if_neg (by omega)]
        rw [e2] at ih
        exact ih
  have := wqA 0 (Nat.zero_le _)
  have e : whT (cT t L i) a 0 = -1 := by unfold whT; rw [if_neg (by omega)]
  rw [e] at this
  exact this
def nmT (t : Nat → Int) (L i : Nat) : Bool := decide (gT t L i = 2 ∧ ¬ (128 ≤ cT t L i ∧ cT t L i ≤ 142))
theorem m_isName (h : RS V t L N i) (h8 : V 369 8 = 0) : Pu K (d + 2) mX12_isName [vR 369] V (if nmT t L i = true then 1 else 0) := by
  refine sX12_isName ⟨fun c => absurd h8 c, fun _ => ?_⟩
  have h' := h
  obtain ⟨a1, a2, a3, a4, a5⟩ := h'
  obtain ⟨b1, b2, b3, b4, b5⟩ := a4 i a2
  rw [a1, tn, b2, rso_w]
  refine ⟨⟨by omega, by omega⟩, fun c => ⟨0, rfl, ?_, rfl⟩, fun c => (m_wordHere (d := d) (a := 0) (m := 15) h (by omega) h8).use ?_⟩
  · rw [if_neg (fun q => c (of_decide_eq_true q).1)]
  · unfold whT
    by_cases c2 : 128 + ((0 : Nat) : Int) ≤ cT t L i ∧ cT t L i < 128 + ((0 : Nat) : Int) + ((15 : Nat) : Int)
    · rw [if_pos c2]
      refine ⟨fun _ => ⟨0, rfl, ?_, rfl⟩, fun q => by omega⟩
      rw [if_neg (fun q => (of_decide_eq_true q).2 (by omega))]
    · rw [if_neg c2]
      refine ⟨fun q => absurd q (by decide), fun _ => ⟨1, rfl, ?_, rfl⟩⟩
      rw [if_pos (show nmT t L i = true from decide_eq_true ⟨c, fun q => c2 (by omega)⟩)]
end RTK
