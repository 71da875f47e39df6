/-! ===== the class reads a work ===== -/
def RLp (nm : Nat → Int) (R BT : Nat) (t : Nat → Int) (L i n : Nat) (V : Mem) (z : Int) (V' : Mem) : Prop := (∀ c, c ≠ 1 → c ≠ 4 → c ≠ 38 → c ≠ 39 → c ≠ 40 → c ≠ 41 → V' c = V c) ∧ V' 1 2 = (L : Nat) ∧ ((lnF nm R BT t L i n = 0 ∧ z = 1 ∧ V' 1 3 = (bpT t L (lnE t L i + 1) : Nat) ∧ V' 4 8 = V 4 8 ∧ V' 38 3 = ((n + 1 : Nat) : Int) ∧ (∀ k, k < n → V' 39 k = V 39 k ∧ V' 40 k = V 40 k ∧ V' 41 k = V 41 k) ∧ V' 39 n = cT t L i ∧ V' 40 n = lnA nm R BT t L i ∧ V' 41 n = lnB nm BT t L i) ∨ (lnF nm R BT t L i n ≠ 0 ∧ z = 0 ∧ V' 4 8 = lnF nm R BT t L i n))
section CWK
variable {K : KK} {d : Nat} {V : Mem} {t : Nat → Int} {L N i n R BT : Nat} {nm : Nat → Int}
theorem c_readLine (hS : ∀ e, TSg K (d + 1 + e)) (hE : TE V t L) (hN : TN V nm R BT) (hX : XA V t L i) (hn : V 38 3 = (n : Nat)) (h30 : n ≤ 30) : Mi K (d + 4) mX5_readLine [vR 4, vR 1, vR 73] V (RLp nm R BT t L i n V) := by
  have h7 : V 1 7 = cT t L i := hX.2.2.2.2.1
  -- a fault
  have bad : ∀ W : Mem, (∀ c, c ≠ 1 → c ≠ 4 → W c = V c) → W 1 2 = (L : Nat) → lnF nm R BT t L i n ≠ 0 → W 4 8 = lnF nm R BT t L i n → ∃ z, some (vI 0) = some (vI z) ∧ RLp nm R BT t L i n V z W := fun W q1 q2 q3 q4 => ⟨0, rfl, fun c p1 p2 _ _ _ _ => q1 c p1 p2, q2, Or.inr ⟨q3, rfl, q4⟩⟩
  refine sX5_readLine 73 is73 ?_
  rw [h7, hn]
  have f1 : cT t L i < 131 ∨ 135 < cT t L i → lnF nm R BT t L i n = ftT t L i 1 := fun q => if_pos q
  have one : cT t L i < 131 ∨ 135 < cT t L i → Wf K (d + 4) mX5_readLine 19 [some (vR 4), some (vR 1), none, none, none] [] V (fun r V' => ∃ z, r = some (vI z) ∧ RLp nm R BT t L i n V z V') := fun q => by
    refine sX5_readLine_19 73 is73 ?_
    rw [ftX hE hX (by omega)]
    exact bad _ (fun c q1 q2 => upm_off c q2 ..) (by rw [upm_off 1 (by decide)]; exact hX.1) (by rw [f1 q]; exact ft_nz (by omega)) (by rw [f1 q, upm_s])
  refine ⟨fun c => one (Or.inl c), fun c1 => ⟨fun c2 => ⟨fun c3 => ?_, fun c3 => ?_⟩, fun c2 => one (Or.inr (by omega))⟩⟩
  · have cN : ¬ n = 30 := by omega
    have cR : ¬ (cT t L i < 131 ∨ 135 < cT t L i) := by omega
    clear f1 one
    have f2 : tlF t L (i + 1) (lnA nm R BT t L i) ≠ 0 → lnF nm R BT t L i n = tlF t L (i + 1) (lnA nm R BT t L i) := fun q => by unfold lnF; rw [if_neg cR, if_neg cN, if_pos q]
    have f3 : tlF t L (i + 1) (lnA nm R BT t L i) = 0 → ln3 nm BT t L i ≠ 0 → lnF nm R BT t L i n = ln3 nm BT t L i := fun q q2 => by unfold lnF; rw [if_neg cR, if_neg cN, if_neg (fun h => h q), if_pos q2]
    have f4 : tlF t L (i + 1) (lnA nm R BT t L i) = 0 → ln3 nm BT t L i = 0 → lnF nm R BT t L i n = if cT t L (lnE t L i) = 59 then 0 else ftT t L (lnE t L i) 1 := fun q q2 => by unfold lnF; rw [if_neg cR, if_neg cN, if_neg (fun h => h q), if_neg (fun h => h q2)]
    -- the line's end
    have endd : tlF t L (i + 1) (lnA nm R BT t L i) = 0 → ln3 nm BT t L i = 0 → ∀ W : Mem, (∀ c, c ≠ 1 → c ≠ 4 → W c = V c) → W 1 2 = (L : Nat) → W 1 3 = (bpT t L (lnE t L i) : Nat) → W 4 8 = V 4 8 → W 4 9 = lnB nm BT t L i → Wf K (d + 4) mX5_readLine 136 [some (vR 4), some (vR 1), none, some (vI (cT t L i)), some (vI (lnA nm R BT t L i))] [] W (fun r V' => ∃ z, r = some (vI z) ∧ RLp nm R BT t L i n V z V') := by
      intro q1 q2 W g1 g2 g3 g4 g5
      have hE' : TE W t L := hE.congr (g1 2 (by decide) (by decide)) (g1 3 (by decide) (by decide))
      refine sX5_readLine_136 73 _ _ is73 ((c_adv (d := d + 1) (hS 1) hE' g2 g3).imp ?_)
      rintro r U ⟨u0, u1, u2⟩
      have hE2 : TE U t L := hE'.congr (u1 2 (by decide)) (u1 3 (by decide))
      rw [u2.2.2.2.2.1, u1 4 (by decide), g5]
      refine ⟨u0, fun c => (c_add (d := d + 2) is38 (by decide) (show U 38 3 = (n : Nat) by rw [u1 38 (by decide), g1 38 (by decide) (by decide)]; exact hn) (by omega) _ _ _).imp ?_, fun c => ?_⟩
      · rintro r X ⟨x0, x1, x2, x3, x4, x5, x6⟩
        rw [if_neg cN] at x2 x3 x4 x5 x6
        rw [if_neg cN] at x3
        have e : ∀ c, c ≠ 1 → c ≠ 4 → U c = V c := fun c p1 p2 => by rw [u1 c p1]; exact g1 c p1 p2
        refine ⟨x0, 1, rfl, fun c p1 p2 p3 p4 p5 p6 => by rw [x1 c (by omega)]; exact e c p1 p2, by rw [x1 1 (by omega)]; exact u2.1, Or.inl ⟨by rw [f4 q1 q2, if_pos c], rfl, by rw [x1 1 (by omega)]; exact u2.2.1, by rw [x1 4 (by omega), u1 4 (by decide)]; exact g4, x2, fun k hk => ?_, x4, x5, x6⟩⟩
        have := x3 k hk
        rw [Nat.add_zero, e (38 + 1) (by decide) (by decide), e (38 + 2) (by decide) (by decide), e (38 + 3) (by decide) (by decide)] at this
        exact this
      · rw [ftX hE2 u2 (by omega)]
        refine bad _ (fun c p1 p2 => by rw [upm_off c p2, u1 c p1]; exact g1 c p1 p2) (by rw [upm_off 1 (by decide)]; exact u2.1) ?_ ?_
        · rw [f4 q1 q2, if_neg c]; exact ft_nz (by omega)
        · rw [f4 q1 q2, if_neg c, upm_s]
    -- the name
    have name : ∀ s3 : Int, ((s3 = 0 ∧ lnA nm R BT t L i = lkT nm 4 BT t L (i + 1)) ∨ (s3 = 1 ∧ lnA nm R BT t L i = lkT nm 0 R t L (i + 1))) → Wf K (d + 4) mX5_readLine 60 [some (vR 4), some (vR 1), some (vR 73), some (vI (cT t L i)), none] [vI s3, vR 73, vR 1, vR 4] V (fun r V' => ∃ z, r = some (vI z) ∧ RLp nm R BT t L i n V z V') := by
      intro s3 hs
      refine sX5_readLine_60 73 _ _ is73 ((c_readToldName (d := d) (hS 0) hE hN hX.1 hX.2.1 hs).use ?_)
      rintro z W ⟨w1, w2, w3⟩
      have hE' : TE W t L := hE.congr (w1 2 (by decide) (by decide)) (w1 3 (by decide) (by decide))
      have hN' : TN W nm R BT := hN.congr (fun c q1 q2 => w1 c (by omega) (by omega))
      rcases w3 with ⟨k1, k2, k3, k4⟩ | ⟨k1, k2, k3⟩
      · rw [k2, k4]
        refine ⟨fun _ => ?_, fun q => absurd q (by decide)⟩
        have u1 : ∀ c, c ≠ 1 → c ≠ 4 → (upm W 4 9 0) c = V c := fun c q1 q2 => by rw [upm_off c q2]; exact w1 c q1 q2
        have u2 : (upm W 4 9 0) 1 = W 1 := upm_off 1 (by decide) ..
        have u8 : (upm W 4 9 0) 4 8 = V 4 8 := by rw [upm_k (by decide)]; exact k3
        have u9 : (upm W 4 9 0) 4 9 = 0 := upm_s _ _ _ _
        generalize upm W 4 9 0 = U at *
        have hEU : TE U t L := hE.congr (u1 2 (by decide) (by decide)) (u1 3 (by decide) (by decide))
        have hNU : TN U nm R BT := hN.congr (fun c q1 q2 => u1 c (by omega) (by omega))
        have p2 : U 1 2 = (L : Nat) := by rw [u2]; exact w2.1
        have p3 : U 1 3 = (bpT t L (i + 2) : Nat) := by rw [u2]; exact w2.2.1
        refine ⟨fun c5 => sX5_readLine_98 73 _ _ is73 ⟨fun c6 => sX5_readLine_117 73 _ _ is73 ⟨fun c7 => ?_, fun c7 => ?_⟩, fun c6 => ?_⟩, fun c5 => ?_⟩
        · -- cut, turn
          refine endd k1 ?_ U u1 p2 ?_ u8 ?_
          · unfold ln3; rw [if_neg c5, if_neg c6, if_neg c7]
          · unfold lnE; rw [if_pos (by omega)]; exact p3
          · unfold lnB; rw [if_neg (by omega), if_neg c7]; exact u9
        · -- keep
          have e3 : ln3 nm BT t L i = tlF t L (i + 2) (lkT nm 4 BT t L (i + 2)) := by unfold ln3; rw [if_neg c5, if_neg c6, if_pos c7]
          refine (c_readToldName (d := d) (hS 0) hEU hNU p2 p3 (Or.inl ⟨rfl, rfl⟩)).use ?_
          rintro z X ⟨x1, x2, x3⟩
          rcases x3 with ⟨y1, y2, y3, y4⟩ | ⟨y1, y2, y3⟩
          · rw [y2]
            refine ⟨fun _ => endd k1 (by rw [e3]; exact y1) X (fun c q1 q2 => by rw [x1 c q1 q2]; exact u1 c q1 q2) x2.1 ?_ (by rw [y3]; exact u8) ?_, fun q => absurd q (by decide)⟩
            · unfold lnE; rw [if_neg (by omega)]; exact x2.2.1
            · unfold lnB; rw [if_neg (by omega), if_pos c7]; exact y4
          · rw [y2]
            exact ⟨fun q => absurd rfl q, fun _ => bad X (fun c q1 q2 => by rw [x1 c q1 q2]; exact u1 c q1 q2) x2.1 (by rw [f3 k1 (by rw [e3]; exact y1), e3]; exact y1) (by rw [f3 k1 (by rw [e3]; exact y1), e3]; exact y3)⟩
        · -- cross
          have e3 : ln3 nm BT t L i = nuF t L (i + 2) 8 := by unfold ln3; rw [if_neg c5, if_pos c6]
          refine (c_readNumber (d := d) (hS 0) hEU p2 p3 8).use ?_
          rintro z X ⟨x1, x2, x3⟩
          rcases x3 with ⟨y1, y2, y3, y4⟩ | ⟨y1, y2, y3⟩
          · rw [y2]
            refine ⟨fun _ => sX5_readLine_117 73 _ _ is73 ⟨fun _ => endd k1 (by rw [e3]; exact y1) X (fun c q1 q2 => by rw [x1 c q1 q2]; exact u1 c q1 q2) x2.1 ?_ (by rw [y3]; exact u8) ?_, fun q => by omega⟩, fun q => absurd q (by decide)⟩
            · unfold lnE; rw [if_neg (by omega)]; exact x2.2.1
            · unfold lnB; rw [if_pos (Or.inr c6)]; exact y4
          · rw [y2]
            exact ⟨fun q => absurd rfl q, fun _ => bad X (fun c q1 q2 => by rw [x1 c q1 q2]; exact u1 c q1 q2) x2.1 (by rw [f3 k1 (by rw [e3]; exact y1), e3]; exact y1) (by rw [f3 k1 (by rw [e3]; exact y1), e3]; exact y3)⟩
        · -- append
          have e3 : ln3 nm BT t L i = nuF t L (i + 2) 99 := by unfold ln3; rw [if_pos c5]
          refine (c_readNumber (d := d) (hS 0) hEU p2 p3 99).use ?_
          rintro z X ⟨x1, x2, x3⟩
          rcases x3 with ⟨y1, y2, y3, y4⟩ | ⟨y1, y2, y3⟩
          · rw [y2]
            refine ⟨fun _ => sX5_readLine_98 73 _ _ is73 ⟨fun _ => sX5_readLine_117 73 _ _ is73 ⟨fun _ => endd k1 (by rw [e3]; exact y1) X (fun c q1 q2 => by rw [x1 c q1 q2]; exact u1 c q1 q2) x2.1 ?_ (by rw [y3]; exact u8) ?_, fun q => by omega⟩, fun q => by omega⟩, fun q => absurd q (by decide)⟩
            · unfold lnE; rw [if_neg (by omega)]; exact x2.2.1
            · unfold lnB; rw [if_pos (Or.inl c5)]; exact y4
          · rw [y2]
            exact ⟨fun q => absurd rfl q, fun _ => bad X (fun c q1 q2 => by rw [x1 c q1 q2]; exact u1 c q1 q2) x2.1 (by rw [f3 k1 (by rw [e3]; exact y1), e3]; exact y1) (by rw [f3 k1 (by rw [e3]; exact y1), e3]; exact y3)⟩
      · rw [k2]
        exact ⟨fun q => absurd rfl q, fun _ => bad W w1 w2.1 (by rw [f2 k1]; exact k1) (by rw [f2 k1]; exact k3)⟩
    refine ⟨fun c4 => name 0 (Or.inl ⟨rfl, if_neg (by omega)⟩), fun c4 => name 1 (Or.inr ⟨rfl, if_pos (by omega)⟩)⟩
  · have cN : n = 30 := by omega
    have f5 : lnF nm R BT t L i n = ftT t L i 5 := by unfold lnF; rw [if_neg (by omega), if_pos cN]
    rw [ftX hE hX (by omega)]
    exact bad _ (fun c q1 q2 => upm_off c q2 ..) (by rw [upm_off 1 (by decide)]; exact hX.1) (by rw [f5]; exact ft_nz (by omega)) (by rw [f5, upm_s])
/-- the lines' tokens, and a fault or 0 -/
def wkF (nm : Nat → Int) (R BT : Nat) (t : Nat → Int) (L : Nat) : Nat → Nat → Nat → (Nat → Nat) → Int × Nat × (Nat → Nat)
  | 0, _, n, l => (0, n, l)
  | f + 1, i, n, l => if gT t L i = 0 then (0, n, l) else if lnF nm R BT t L i n ≠ 0 then (lnF nm R BT t L i n, n, l) else wkF nm R BT t L f (lnE t L i + 1) (n + 1) (fun k => if k = n then i else l k)
def XW (V : Mem) (nm : Nat → Int) (R BT : Nat) (t : Nat → Int) (L n : Nat) (l : Nat → Nat) : Prop := V 38 3 = (n : Nat) ∧ ∀ k, k < n → V 39 k = cT t L (l k) ∧ V 40 k = lnA nm R BT t L (l k) ∧ V 41 k = lnB nm BT t L (l k)
theorem lnF_n {i n : Nat} (h : lnF nm R BT t L i n = 0) : n ≠ 30 := by
  intro e
  unfold lnF at h
  split at h
  · exact ft_nz (by omega) h
  · exact ft_nz (by omega) h
theorem c_readWork (hS : ∀ e, TSg K (d + 1 + e)) (hE : TE V t L) (hN : TN V nm R BT) (h2 : V 1 2 = (L : Nat)) : Mi K (d + 5) mX5_readWork [vR 4, vR 1, vR 73] V (fun z V' => (∀ c, c ≠ 1 → c ≠ 4 → c ≠ 38 → c ≠ 39 → c ≠ 40 → c ≠ 41 → V' c = V c) ∧ z = (wkF nm R BT t L 31 0 0 (fun _ => 0)).1 ∧ (z = 0 → XW V' nm R BT t L (wkF nm R BT t L 31 0 0 (fun _ => 0)).2.1 (wkF nm R BT t L 31 0 0 (fun _ => 0)).2.2)) := by
  refine sX5_readWork 73 is73 ?_
  generalize hres : wkF nm R BT t L 31 0 0 (fun _ => 0) = res
  have wqA : ∀ f i n : Nat, ∀ l : Nat → Nat, f + n = 31 → wkF nm R BT t L f i n l = res → ∀ W : Mem, (∀ c, c ≠ 1 → c ≠ 4 → c ≠ 38 → c ≠ 39 → c ≠ 40 → c ≠ 41 → W c = V c) → W 1 2 = (L : Nat) → W 1 3 = (bpT t L i : Nat) → W 4 8 = 0 → XW W nm R BT t L n l → n ≤ 30 → Wf K (d + 5) mX5_readWork 20 [some (vR 4), some (vR 1), some (vR 73), some (vI (n : Int))] [] W (fun r V' => ∃ z, r = some (vI z) ∧ ((∀ c, c ≠ 1 → c ≠ 4 → c ≠ 38 → c ≠ 39 → c ≠ 40 → c ≠ 41 → V' c = V c) ∧ z = res.1 ∧ (z = 0 → XW V' nm R BT t L res.2.1 res.2.2))) := by
    intro f
    induction f with
    | zero => intro i n l e; omega
    | succ f ih =>
      intro i n l e hw W g1 g2 g3 g8 gx hn
      have hE' : TE W t L := hE.congr (g1 2 (by decide) (by decide) (by decide) (by decide) (by decide) (by decide)) (g1 3 (by decide) (by decide) (by decide) (by decide) (by decide) (by decide))
      refine sX5_readWork_20 73 _ is73 ⟨fun c => by omega, fun _ => (c_adv (d := d + 2) (hS 2) hE' g2 g3).imp ?_⟩
      rintro r U ⟨u0, u1, u2⟩
      have hE2 : TE U t L := hE'.congr (u1 2 (by decide)) (u1 3 (by decide))
      have eU : ∀ c, c ≠ 1 → c ≠ 4 → c ≠ 38 → c ≠ 39 → c ≠ 40 → c ≠ 41 → U c = V c := fun c p1 p2 p3 p4 p5 p6 => by rw [u1 c p1]; exact g1 c p1 p2 p3 p4 p5 p6
      have hNU : TN U nm R BT := hN.congr (fun c q1 q2 => eU c (by omega) (by omega) (by omega) (by omega) (by omega) (by omega))
      have xU : XW U nm R BT t L n l := by
        unfold XW
        rw [u1 38 (by decide), u1 39 (by decide), u1 40 (by decide), u1 41 (by decide)]
        exact gx
      have hw' : (if gT t L i = 0 then ((0 : Int), n, l) else if lnF nm R BT t L i n ≠ 0 then (lnF nm R BT t L i n, n, l) else wkF nm R BT t L f (lnE t L i + 1) (n + 1) (fun k => if k = n then i else l k)) = res := hw
      have g4 := u2.2.2.1
      refine ⟨u0, fun c => ?_, fun c => ?_⟩
      · rw [if_neg (by omega)] at hw'
        refine (c_readLine (d := d) hS hE2 hNU u2 xU.1 hn).use ?_
        rintro z X ⟨x1, x2, x3⟩
        have eX : ∀ c, c ≠ 1 → c ≠ 4 → c ≠ 38 → c ≠ 39 → c ≠ 40 → c ≠ 41 → X c = V c := fun c p1 p2 p3 p4 p5 p6 => by rw [x1 c p1 p2 p3 p4 p5 p6]; exact eU c p1 p2 p3 p4 p5 p6
        rcases x3 with ⟨y1, y2, y3, y4, y5, y6, y7, y8, y9⟩ | ⟨y1, y2, y3⟩
        · rw [if_neg (fun h => h y1)] at hw'
          have nn := lnF_n y1
          rw [y2, w32_s (i := n) (by omega)]
          refine ⟨fun _ => ih (lnE t L i + 1) (n + 1) _ (by omega) hw' X eX x2 y3 ?_ ⟨y5, fun k hk => ?_⟩ (by omega), fun q => absurd q (by decide)⟩
          · rw [y4, u1 4 (by decide)]; exact g8
          · show X 39 k = cT t L (if k = n then i else l k) ∧ X 40 k = lnA nm R BT t L (if k = n then i else l k) ∧ X 41 k = lnB nm BT t L (if k = n then i else l k)
            by_cases q : k = n
            · rw [if_pos q, q]; exact ⟨y7, y8, y9⟩
            · rw [if_neg q, (y6 k (by omega)).1, (y6 k (by omega)).2.1, (y6 k (by omega)).2.2]
              exact xU.2 k (by omega)
        · rw [if_pos y1] at hw'
          rw [y2]
          refine ⟨fun q => absurd rfl q, fun _ => ⟨_, rfl, eX, ?_, fun q => absurd (by rw [← y3]; exact q) y1⟩⟩
          rw [y3, ← hw']
      · rw [if_pos (by omega)] at hw'
        refine ⟨0, rfl, eU, ?_, fun _ => ?_⟩
        · rw [← hw']
        · rw [← hw']; exact xU
  refine wqA 31 0 0 (fun _ => 0) rfl hres _ (fun c p1 p2 p3 p4 p5 p6 => by rw [upm_off c p1, upm_off c p2, upm_off c p3]) (by rw [upm_k (by decide), upm_off 1 (by decide), upm_off 1 (by decide)]; exact h2) (upm_s _ _ _ _) (by rw [upm_off 4 (by decide), upm_s]) ⟨by rw [upm_off 38 (by decide), upm_off 38 (by decide), upm_s]; rfl, fun k hk => by omega⟩ (by omega)
end CWK
