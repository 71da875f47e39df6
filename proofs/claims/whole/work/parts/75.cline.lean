/-! ===== the class reads a line of a work ===== -/
def lkT (nm : Nat → Int) (a m : Nat) (t : Nat → Int) (L i : Nat) : Int := fsN (fun k => nm (a + k)) (wT 37 t L i) m
/-- which it is told of, and the line's value -/
def lnA (nm : Nat → Int) (R BT : Nat) (t : Nat → Int) (L i : Nat) : Int := if cT t L i < 134 then lkT nm 0 R t L (i + 1) else lkT nm 4 BT t L (i + 1)
def lnB (nm : Nat → Int) (BT : Nat) (t : Nat → Int) (L i : Nat) : Int := if cT t L i = 131 ∨ cT t L i = 134 then nT t L (i + 2) else if cT t L i = 135 then lkT nm 4 BT t L (i + 2) else 0
def lnE (t : Nat → Int) (L i : Nat) : Nat := if cT t L i = 132 ∨ cT t L i = 133 then i + 2 else i + 3
def nuF (t : Nat → Int) (L i : Nat) (hi : Int) : Int := if gT t L i = 3 then (if nT t L i ≤ hi then 0 else ftT t L i 4) else ftT t L i 1
def tlF (t : Nat → Int) (L i : Nat) (z : Int) : Int := if nmT t L i = true then (if z = -1 then ftT t L i 2 else 0) else ftT t L i 1
def ln3 (nm : Nat → Int) (BT : Nat) (t : Nat → Int) (L i : Nat) : Int := if cT t L i = 131 then nuF t L (i + 2) 99 else if cT t L i = 134 then nuF t L (i + 2) 8 else if cT t L i = 135 then tlF t L (i + 2) (lkT nm 4 BT t L (i + 2)) else 0
/-- a line's fault, or 0 -/
def lnF (nm : Nat → Int) (R BT : Nat) (t : Nat → Int) (L i n : Nat) : Int :=
  if cT t L i < 131 ∨ 135 < cT t L i then ftT t L i 1 else if n = 30 then ftT t L i 5 else if tlF t L (i + 1) (lnA nm R BT t L i) ≠ 0 then tlF t L (i + 1) (lnA nm R BT t L i) else if ln3 nm BT t L i ≠ 0 then ln3 nm BT t L i else if cT t L (lnE t L i) = 59 then 0 else ftT t L (lnE t L i) 1
/-- the class's told names are those of the reference -/
def TN (V : Mem) (nm : Nat → Int) (R BT : Nat) : Prop := V 73 5 = (R : Nat) ∧ R ≤ 4 ∧ V 73 6 = (BT : Nat) ∧ BT ≤ 4 ∧ (∀ r, r < R → nmC (V (79 + 2 * r) 1) (nm r)) ∧ (∀ k, k < BT → nmC (V (87 + 2 * k) 1) (nm (4 + k))) ∧ (∀ r s, r < R → s < R → nm r = nm s → r = s) ∧ ∀ r s, r < BT → s < BT → nm (4 + r) = nm (4 + s) → r = s
theorem TN.congr {V V' : Mem} {nm : Nat → Int} {R BT : Nat} (h : TN V nm R BT) (h1 : ∀ c, 73 ≤ c → c ≤ 102 → V' c = V c) : TN V' nm R BT := by
  obtain ⟨a1, a2, a3, a4, a5, a6, a7, a8⟩ := h
  refine ⟨by rw [h1 73 (by omega) (by omega)]; exact a1, a2, by rw [h1 73 (by omega) (by omega)]; exact a3, a4, fun r hr => by rw [h1 (79 + 2 * r) (by omega) (by omega)]; exact a5 r hr, fun k hk => by rw [h1 (87 + 2 * k) (by omega) (by omega)]; exact a6 k hk, a7, a8⟩
theorem ft_nz {t : Nat → Int} {L i : Nat} {w : Int} (hw : 0 < w) : ftT t L i w ≠ 0 := by unfold ftT; omega
section CLN
variable {K : KK} {d : Nat} {V : Mem} {t : Nat → Int} {L N i R BT : Nat} {nm : Nat → Int}
/-- a name is read: row's (x = 1) or braid's (x = 0) -/
theorem c_readToldName (hS : TSg K (d + 1)) (hE : TE V t L) (hN : TN V nm R BT) (h2 : V 1 2 = (L : Nat)) (h3 : V 1 3 = (bpT t L i : Nat)) {x z0 : Int} (hx : (x = 0 ∧ z0 = lkT nm 4 BT t L i) ∨ (x = 1 ∧ z0 = lkT nm 0 R t L i)) : Mi K (d + 3) mX5_readToldName [vR 4, vR 1, vR 73, vI x] V (fun z V' => (∀ c, c ≠ 1 → c ≠ 4 → V' c = V c) ∧ XA V' t L i ∧ ((tlF t L i z0 = 0 ∧ z = 1 ∧ V' 4 8 = V 4 8 ∧ V' 4 9 = z0) ∨ (tlF t L i z0 ≠ 0 ∧ z = 0 ∧ V' 4 8 = tlF t L i z0))) := by
  refine sX5_readToldName 73 x is73 ((c_adv (d := d) hS hE h2 h3).imp ?_)
  rintro r W ⟨w0, w1, w2⟩
  have hE' : TE W t L := hE.congr (w1 2 (by decide)) (w1 3 (by decide))
  have hN' : TN W nm R BT := hN.congr (fun c q1 q2 => w1 c (by omega))
  obtain ⟨n1, n2, n3, n4, n5, n6, n7, n8⟩ := hN'
  refine ⟨w0, (c_isName (d := d + 2) w2).use ?_⟩
  by_cases c : nmT t L i = true
  · rw [if_pos c]
    have g2 : gT t L i = 2 := (of_decide_eq_true c).1
    have e8 : W 1 8 = wT 32 t L i := w2.2.2.2.2.2.2 g2
    have hnm : nmC (wT 32 t L i) (wT 37 t L i) := tk_nm g2
    have fin : ∀ z : Int, z = z0 → ((¬ (upm W 4 9 z) 4 9 = -1 → ∃ z', some (vI 1) = some (vI z') ∧ (∀ c, c ≠ 1 → c ≠ 4 → (upm W 4 9 z) c = V c) ∧ XA (upm W 4 9 z) t L i ∧ ((tlF t L i z0 = 0 ∧ z' = 1 ∧ (upm W 4 9 z) 4 8 = V 4 8 ∧ (upm W 4 9 z) 4 9 = z0) ∨ (tlF t L i z0 ≠ 0 ∧ z' = 0 ∧ (upm W 4 9 z) 4 8 = tlF t L i z0))) ∧ ((upm W 4 9 z) 4 9 = -1 → ∃ z', some (vI 0) = some (vI z') ∧ (∀ c, c ≠ 1 → c ≠ 4 → (upm (upm W 4 9 z) 4 8 (w32 (2 + w32 (16 * (upm W 4 9 z) 1 5)))) c = V c) ∧ XA (upm (upm W 4 9 z) 4 8 (w32 (2 + w32 (16 * (upm W 4 9 z) 1 5)))) t L i ∧ ((tlF t L i z0 = 0 ∧ z' = 1 ∧ (upm (upm W 4 9 z) 4 8 (w32 (2 + w32 (16 * (upm W 4 9 z) 1 5)))) 4 8 = V 4 8 ∧ (upm (upm W 4 9 z) 4 8 (w32 (2 + w32 (16 * (upm W 4 9 z) 1 5)))) 4 9 = z0) ∨ (tlF t L i z0 ≠ 0 ∧ z' = 0 ∧ (upm (upm W 4 9 z) 4 8 (w32 (2 + w32 (16 * (upm W 4 9 z) 1 5)))) 4 8 = tlF t L i z0)))) := by
      intro z hz
      rw [upm_s, upm_off 1 (by decide), ftX hE' w2 (by omega)]
      refine ⟨fun q => ⟨1, rfl, fun c q1 q2 => by rw [upm_off c q2]; exact w1 c q1, w2.congr (upm_off 1 (by decide)), Or.inl ⟨?_, rfl, by rw [upm_k (by decide), w1 4 (by decide)], hz⟩⟩, fun q => ⟨0, rfl, fun c q1 q2 => by rw [upm_off c q2, upm_off c q2]; exact w1 c q1, w2.congr (by rw [upm_off 1 (by decide), upm_off 1 (by decide)]), Or.inr ⟨?_, rfl, ?_⟩⟩⟩
      · unfold tlF; rw [if_pos c, if_neg (by rw [← hz]; exact q)]
      · unfold tlF; rw [if_pos c, if_pos (by rw [← hz]; exact q)]; exact ft_nz (by omega)
      · unfold tlF; rw [if_pos c, if_pos (by rw [← hz]; exact q), upm_s]
    refine ⟨fun _ => ?_, fun q => absurd q (by decide)⟩
    rcases hx with ⟨x0, xz⟩ | ⟨x0, xz⟩
    · refine ⟨fun _ => (c_braidNamed (d := d + 2) is73 n3 (by omega) _).use ?_, fun q => absurd x0 q⟩
      rintro z W' ⟨k1, k2⟩
      subst k2
      refine fin z ?_
      rw [xz]
      rw [e8] at k1
      exact fs_same (g := fun k => nm (4 + k)) n6 n8 hnm k1
    · refine ⟨fun q => by omega, fun _ => (c_rowNamed (d := d + 2) is73 n1 n2 _).use ?_⟩
      rintro z W' ⟨k1, k2⟩
      subst k2
      refine fin z ?_
      rw [xz]
      rw [e8] at k1
      refine fs_same (g := fun k => nm (0 + k)) (fun r hr => ?_) (fun r s hr hs q => ?_) hnm k1
      · show nmC _ (nm (0 + r))
        rw [Nat.zero_add]
        exact n5 r hr
      · have q' : nm (0 + r) = nm (0 + s) := q
        rw [Nat.zero_add, Nat.zero_add] at q'
        exact n7 r s hr hs q'
  · rw [if_neg c]
    refine ⟨fun q => absurd rfl q, fun _ => ⟨0, rfl, fun c q1 q2 => by rw [upm_off c q2]; exact w1 c q1, w2.congr (upm_off 1 (by decide)), Or.inr ⟨?_, rfl, ?_⟩⟩⟩
    · unfold tlF; rw [if_neg c]; exact ft_nz (by omega)
    · unfold tlF; rw [if_neg c, upm_s]; exact ftX hE' w2 (by omega)
theorem c_readNumber (hS : TSg K (d + 1)) (hE : TE V t L) (h2 : V 1 2 = (L : Nat)) (h3 : V 1 3 = (bpT t L i : Nat)) (hi : Int) : Mi K (d + 3) mX5_readNumber [vR 4, vR 1, vI hi] V (fun z V' => (∀ c, c ≠ 1 → c ≠ 4 → V' c = V c) ∧ XA V' t L i ∧ ((nuF t L i hi = 0 ∧ z = 1 ∧ V' 4 8 = V 4 8 ∧ V' 4 9 = nT t L i) ∨ (nuF t L i hi ≠ 0 ∧ z = 0 ∧ V' 4 8 = nuF t L i hi))) := by
  refine sX5_readNumber hi ((c_adv (d := d) hS hE h2 h3).imp ?_)
  rintro r W ⟨w0, w1, w2⟩
  have hE' : TE W t L := hE.congr (w1 2 (by decide)) (w1 3 (by decide))
  have g3 := w2.2.2.1
  refine ⟨w0, fun c => ?_, fun c => ⟨0, rfl, fun c q1 q2 => by rw [upm_off c q2]; exact w1 c q1, w2.congr (upm_off 1 (by decide)), Or.inr ?_⟩⟩
  · have g : gT t L i = 3 := by omega
    rw [upm_s, upm_off 1 (by decide), ftX hE' w2 (by omega), w2.2.2.2.2.2.1 g]
    refine ⟨fun q => ⟨1, rfl, fun c q1 q2 => by rw [upm_off c q2]; exact w1 c q1, w2.congr (upm_off 1 (by decide)), Or.inl ⟨?_, rfl, by rw [upm_k (by decide), w1 4 (by decide)], upm_s _ _ _ _⟩⟩, fun q => ⟨0, rfl, fun c q1 q2 => by rw [upm_off c q2, upm_off c q2]; exact w1 c q1, w2.congr (by rw [upm_off 1 (by decide), upm_off 1 (by decide)]), Or.inr ?_⟩⟩
    · unfold nuF; rw [if_pos g, if_pos q]
    · unfold nuF; rw [if_pos g, if_neg q, upm_s]; exact ⟨ft_nz (by omega), rfl, rfl⟩
  · have g : ¬ gT t L i = 3 := by omega
    unfold nuF; rw [if_neg g, upm_s]; exact ⟨ft_nz (by omega), rfl, ftX hE' w2 (by omega)⟩
end CLN
