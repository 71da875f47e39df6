/-! ===== the reference reads a work: the loop ===== -/
theorem ix78a {n : Nat} (h : n ≤ 30) : w32 (((95 + 3 * n : Nat) : Int) + 1) = ((96 + 3 * n : Nat) : Int) := by rw [w32_id (by omega) (by omega)]; omega
theorem ix78b {n : Nat} (h : n ≤ 30) : w32 (((95 + 3 * n : Nat) : Int) + 2) = ((97 + 3 * n : Nat) : Int) := by rw [w32_id (by omega) (by omega)]; omega
theorem ix78c {n : Nat} (h : n ≤ 30) : w32 (3 * (n : Int)) = ((3 * n : Nat) : Int) := by rw [w32_id (by omega) (by omega)]; omega
theorem ix78d {k : Nat} (h : k ≤ 90) : w32 (95 + (k : Int)) = ((95 + k : Nat) : Int) := by rw [w32_id (by omega) (by omega)]; omega
theorem ix78e {k : Nat} (h : k ≤ 90) : w32 (1 + (k : Int)) = ((1 + k : Nat) : Int) := by rw [w32_id (by omega) (by omega)]; omega
section MWL
variable {K : KK} {d : Nat} {V : Mem} {t : Nat → Int} {L N i n R BT : Nat} {nm : Nat → Int}
theorem m_work_copy (hn : n ≤ 30) {W : Mem} (h0 : W 378 0 = (n : Nat)) : Wf K (d + 5) mX12_work 215 [some (vR 369), some (vI (n : Int)), some (vI 0), none] [] W (fun r V' => ∃ z, r = some (vI z) ∧ z = 0 ∧ (∀ c, c ≠ 378 → V' c = W c) ∧ V' 378 0 = (n : Nat) ∧ ∀ j, j < 3 * n → V' 378 (1 + j) = W 378 (95 + j)) := by
  have wqA : ∀ k, k ≤ 3 * n → ∀ X : Mem, (∀ c, c ≠ 378 → X c = W c) → X 378 0 = (n : Nat) → (∀ j, j < k → X 378 (1 + j) = W 378 (95 + j)) → (∀ j, 95 ≤ j → X 378 j = W 378 j) → Wf K (d + 5) mX12_work 215 [some (vR 369), some (vI (n : Int)), some (vI (k : Int)), none] [] X (fun r V' => ∃ z, r = some (vI z) ∧ z = 0 ∧ (∀ c, c ≠ 378 → V' c = W c) ∧ V' 378 0 = (n : Nat) ∧ ∀ j, j < 3 * n → V' 378 (1 + j) = W 378 (95 + j)) := by
    refine up_ind ?_ ?_
    · intro X g1 g2 g3 g4
      refine sX12_work_215 _ _ ?_
      rw [ix78c hn]
      exact ⟨fun _ => ⟨0, rfl, rfl, g1, g2, g3⟩, fun c => absurd (Int.le_refl _) c⟩
    · intro k hk ih X g1 g2 g3 g4
      refine sX12_work_215 _ _ ?_
      rw [ix78c hn, ix78d (k := k) (by omega), ix78e (k := k) (by omega), tn, tn, w32_s (i := k) (by omega)]
      refine ⟨fun c => by omega, fun _ => ⟨⟨by omega, by omega⟩, ⟨by omega, by omega⟩, ih _ (fun c q => by rw [upm_off c q]; exact g1 c q) (by rw [upm_k (by omega)]; exact g2) (fun j hj => ?_) (fun j hj => by rw [upm_k (by omega)]; exact g4 j hj)⟩⟩
      by_cases e : j = k
      · rw [e, upm_s]; exact g4 _ (by omega)
      · rw [upm_k (by omega)]; exact g3 j (by omega)
  exact wqA 0 (Nat.zero_le _) W (fun _ _ => rfl) h0 (fun j hj => by omega) (fun _ _ => rfl)
theorem m_workLoop {U : Mem} {res : Int × Nat × (Nat → Nat)} (hL : L ≤ 1000) (hP : psT t L N = L) (hR : U 375 0 = (R : Nat)) (hR4 : R ≤ 4) (hB : U 375 1 = (BT : Nat)) (hB4 : BT ≤ 4) (hnm : U 377 = nm) : ∀ f i n : Nat, ∀ l : Nat → Nat, f + n = 31 → wkF nm R BT t L f i n l = res → n ≤ 30 → ∀ W : Mem, (∀ c, c ≠ 369 → c ≠ 378 → W c = U c) → (∀ j, j ≠ 7 → j ≠ 8 → W 369 j = U 369 j) → (∀ j, j < 95 → W 378 j = U 378 j) → RS W t L N i → W 369 8 = 0 → MW W nm R BT t L n l → Wf K (d + 5) mX12_work 11 [some (vR 369), some (vI (n : Int)), none, none] [] W (fun r V' => ∃ z, r = some (vI z) ∧ MWp nm R BT t L U res z V') := by
  intro f
  induction f with
  | zero => intro i n l e; omega
  | succ f ih =>
    intro i n l e hw hn W g1 g2 g3 hs h8 hm
    have hw' : (if gT t L i = 0 then ((0 : Int), n, l) else if lnF nm R BT t L i n ≠ 0 then (lnF nm R BT t L i n, n, l) else wkF nm R BT t L f (lnE t L i + 1) (n + 1) (fun k => if k = n then i else l k)) = res := hw
    have hs' := hs
    obtain ⟨a1, a2, a3, a4, a5⟩ := hs'
    obtain ⟨b1, b2, b3, b4, b5⟩ := a4 i a2
    have b2' : W 371 i = 0 ↔ gT t L i = 0 := by rw [b2]; exact rso_0
    -- a fault: how the result is
    have rbad : ∀ F : Int, gT t L i ≠ 0 → lnF nm R BT t L i n = F → 0 < F → res.1 = F := fun F q1 q2 q3 => by
      rw [if_neg q1, if_pos (by omega)] at hw'
      rw [← hw', q2]
    refine sX12_work_11 _ ⟨fun c => absurd h8 c, fun _ => ?_⟩
    rw [a1, tn, b2', ix77a hn]
    refine ⟨⟨by omega, by omega⟩, fun c => ?_, fun cg => (m_wordHere (d := d + 3) (a := 3) (m := 5) hs (by omega) h8).use ?_⟩
    · -- the end
      rw [if_pos c] at hw'
      refine sX12_work_194 _ ⟨fun _ => (m_work_copy (d := d) hn (upm_s _ _ _ _)).imp ?_, fun q => absurd (by rw [h8]; exact Int.le_refl _) q⟩
      rintro r V' ⟨z, z1, z2, z3, z4, z5⟩
      refine ⟨z, z1, fun c p1 p2 => by rw [z3 c p2, upm_off c p2]; exact g1 c p1 p2, fun j p1 p2 => by rw [z3 369 (by decide), upm_off 369 (by decide)]; exact g2 j p1 p2, by rw [z2, ← hw'], fun q => absurd z2 q, fun _ => ?_⟩
      rw [← hw']
      refine ⟨z4, fun k hk => ?_⟩
      have hk' : k < n := hk
      obtain ⟨m1, m2, m3⟩ := hm k hk'
      have y1 := z5 (3 * k) (by omega)
      have y2 := z5 (3 * k + 1) (by omega)
      have y3 := z5 (3 * k + 2) (by omega)
      rw [upm_k (by omega)] at y1 y2 y3
      rw [show 1 + (3 * k + 1) = 2 + 3 * k by omega, show 95 + (3 * k + 1) = 96 + 3 * k by omega] at y2
      rw [show 1 + (3 * k + 2) = 3 + 3 * k by omega, show 95 + (3 * k + 2) = 97 + 3 * k by omega] at y3
      rw [y1, y2, y3]
      exact ⟨m1, m2, m3⟩
    · have hi1 := tk_nx hP a2 cg
      by_cases cR : cT t L i < 131 ∨ 135 < cT t L i
      · -- no such word
        have f1 : lnF nm R BT t L i n = ftT t L i 1 := if_pos cR
        have ew : whT (cT t L i) 3 5 = -1 := if_neg (by omega)
        rw [ew]
        refine ⟨fun q => absurd q (by decide), fun _ => ⟨fun q => absurd h8 q, fun _ => ?_⟩⟩
        rw [a1, tn, b1, ftT_w hL (by omega)]
        have hp := ft_pos (t := t) (L := L) (i := i) (w := 1) (by omega)
        have er := rbad _ cg f1 hp
        exact ⟨⟨by omega, by omega⟩, m_work_bad (d := d) (j := i) (by rw [upm_s, er]) (by rw [er]; exact hp) (by rw [upm_k (by decide)]; exact a1) (by omega) (fun c p1 p2 => by rw [upm_off c p1]; exact g1 c p1 p2) (fun j p1 p2 => by rw [upm_k p2]; exact g2 j p1 p2) (fun j p => by rw [upm_off 378 (by decide)]; exact g3 j p) _⟩
      · have ew : whT (cT t L i) 3 5 = cT t L i - 131 := by unfold whT; rw [if_pos (by omega)]; omega
        rw [ew]
        refine ⟨fun _ => ⟨fun cn => ⟨⟨by omega, by omega⟩, ?_⟩, fun cn => ⟨fun q => absurd h8 q, fun _ => ?_⟩⟩, fun q => by omega⟩
        · -- the line
          have cN : ¬ n = 30 := by omega
          have f2 : tlF t L (i + 1) (lnA nm R BT t L i) ≠ 0 → lnF nm R BT t L i n = tlF t L (i + 1) (lnA nm R BT t L i) := fun q => by unfold lnF; rw [if_neg cR, if_neg cN, if_pos q]
          have f3 : tlF t L (i + 1) (lnA nm R BT t L i) = 0 → ln3 nm BT t L i ≠ 0 → lnF nm R BT t L i n = ln3 nm BT t L i := fun q q2 => by unfold lnF; rw [if_neg cR, if_neg cN, if_neg (fun h => h q), if_pos q2]
          have f4 : tlF t L (i + 1) (lnA nm R BT t L i) = 0 → ln3 nm BT t L i = 0 → lnF nm R BT t L i n = if cT t L (lnE t L i) = 59 then 0 else ftT t L (lnE t L i) 1 := fun q q2 => by unfold lnF; rw [if_neg cR, if_neg cN, if_neg (fun h => h q), if_neg (fun h => h q2)]
          rw [tn, a1, w32_s (i := i) (by omega), ix78a hn]
          generalize hX : upm (upm W 369 7 ((i + 1 : Nat) : Int)) 378 (95 + 3 * n) (cT t L i - 131) = X
          have x1 : ∀ c, c ≠ 369 → c ≠ 378 → X c = U c := fun c p1 p2 => by rw [← hX, upm_off c p2, upm_off c p1]; exact g1 c p1 p2
          have x2 : ∀ j, j ≠ 7 → j ≠ 8 → X 369 j = U 369 j := fun j p1 p2 => by rw [← hX, upm_off 369 (by decide), upm_k p1]; exact g2 j p1 p2
          have x3 : ∀ j, j < 95 → X 378 j = U 378 j := fun j p => by rw [← hX, upm_k (by omega), upm_off 378 (by decide)]; exact g3 j p
          have x7 : X 369 7 = ((i + 1 : Nat) : Int) := by rw [← hX, upm_off 369 (by decide), upm_s]
          have x8 : X 369 8 = 0 := by rw [← hX, upm_off 369 (by decide), upm_k (by decide)]; exact h8
          have xs : RS X t L N (i + 1) := hs.mov x7 hi1 (by rw [← hX, upm_off 371 (by decide), upm_off 371 (by decide)]) (by rw [← hX, upm_off 372 (by decide), upm_off 372 (by decide)]) (by rw [← hX, upm_off 373 (by decide), upm_off 373 (by decide)]) (by rw [← hX, upm_off 374 (by decide), upm_off 374 (by decide)])
          have xm : MW X nm R BT t L n l := fun k hk => by
            obtain ⟨m1, m2, m3⟩ := hm k hk
            rw [← hX]
            exact ⟨by rw [upm_k (by omega), upm_off 378 (by decide)]; exact m1, by rw [upm_k (by omega), upm_off 378 (by decide)]; exact m2, by rw [upm_k (by omega), upm_off 378 (by decide)]; exact m3⟩
          have xc : X 378 (95 + 3 * n) = cT t L i - 131 := by rw [← hX, upm_s]
          clear hX
          rw [x1 375 (by decide) (by decide), hR, hB]
          have xn : X 377 = nm := by rw [x1 377 (by decide) (by decide)]; exact hnm
          -- the line's end
          have endd : tlF t L (i + 1) (lnA nm R BT t L i) = 0 → ln3 nm BT t L i = 0 → ∀ (Z : Mem) (v : Int), v = lnB nm BT t L i → (∀ c, c ≠ 369 → c ≠ 378 → Z c = U c) → (∀ j, j ≠ 7 → j ≠ 8 → Z 369 j = U 369 j) → (∀ j, j < 95 → Z 378 j = U 378 j) → Z 369 8 = 0 → RS Z t L N (lnE t L i) → MW Z nm R BT t L n l → Z 378 (95 + 3 * n) = cT t L i - 131 → Z 378 (96 + 3 * n) = lnA nm R BT t L i → Wf K (d + 5) mX12_work 181 [some (vR 369), some (vI (n : Int)), none, none] [vI v, vI ((97 + 3 * n : Nat) : Int), vR 378] Z (fun r V' => ∃ z, r = some (vI z) ∧ MWp nm R BT t L U res z V') := by
            intro q1 q2 Z v hv z1 z2 z3 z8 zs zm zc za
            refine sX12_work_181 _ _ _ ⟨⟨by omega, by omega⟩, ?_⟩
            rw [tn, w32_s (i := n) (by omega)]
            have y1 : ∀ c, c ≠ 369 → c ≠ 378 → (upm Z 378 (97 + 3 * n) v) c = U c := fun c p1 p2 => by rw [upm_off c p2]; exact z1 c p1 p2
            have y2 : ∀ j, j ≠ 7 → j ≠ 8 → (upm Z 378 (97 + 3 * n) v) 369 j = U 369 j := fun j p1 p2 => by rw [upm_off 369 (by decide)]; exact z2 j p1 p2
            have y3 : ∀ j, j < 95 → (upm Z 378 (97 + 3 * n) v) 378 j = U 378 j := fun j p => by rw [upm_k (by omega)]; exact z3 j p
            have y7 : (upm Z 378 (97 + 3 * n) v) 369 7 = ((lnE t L i : Nat) : Int) := by rw [upm_off 369 (by decide)]; exact zs.1
            have y8 : (upm Z 378 (97 + 3 * n) v) 369 8 = 0 := by rw [upm_off 369 (by decide)]; exact z8
            have ys : RS (upm Z 378 (97 + 3 * n) v) t L N (lnE t L i) := zs.mov y7 zs.2.1 (upm_off 371 (by decide)) (upm_off 372 (by decide)) (upm_off 373 (by decide)) (upm_off 374 (by decide))
            have ym : MW (upm Z 378 (97 + 3 * n) v) nm R BT t L (n + 1) (fun k => if k = n then i else l k) := fun k hk => by
              show _ = cT t L (if k = n then i else l k) - 131 ∧ _ = lnA nm R BT t L (if k = n then i else l k) ∧ _ = lnB nm BT t L (if k = n then i else l k)
              by_cases q : k = n
              · rw [if_pos q, q]
                exact ⟨by rw [upm_k (by omega)]; exact zc, by rw [upm_k (by omega)]; exact za, by rw [upm_s]; exact hv⟩
              · rw [if_neg q]
                obtain ⟨m1, m2, m3⟩ := zm k (by omega)
                exact ⟨by rw [upm_k (by omega)]; exact m1, by rw [upm_k (by omega)]; exact m2, by rw [upm_k (by omega)]; exact m3⟩
            generalize upm Z 378 (97 + 3 * n) v = Y at *
            refine sX12_work_185 _ (Mv.use (m_takeSign (d := d + 3) ys hL (by decide) y8) ?_)
            rintro T rfl
            by_cases c9 : cT t L (lnE t L i) = 59
            · rw [if_pos c9]
              have e0 : lnF nm R BT t L i n = 0 := by rw [f4 q1 q2, if_pos c9]
              rw [if_neg cg, if_neg (fun h => h e0)] at hw'
              have hE1 := tk_nx hP zs.2.1 (c_g (by rw [c9]; decide))
              exact ih (lnE t L i + 1) (n + 1) _ (by omega) hw' (by omega) _ (fun c p1 p2 => by rw [upm_off c p1]; exact y1 c p1 p2) (fun j p1 p2 => by rw [upm_k p1]; exact y2 j p1 p2) (fun j p => by rw [upm_off 378 (by decide)]; exact y3 j p) (ys.mov (upm_s _ _ _ _) hE1 (upm_off 371 (by decide)) (upm_off 372 (by decide)) (upm_off 373 (by decide)) (upm_off 374 (by decide))) (by rw [upm_k (by decide)]; exact y8) (fun k hk => by rw [upm_off 378 (by decide)]; exact ym k hk)
            · rw [if_neg c9]
              have hp := ft_pos (t := t) (L := L) (i := lnE t L i) (w := 1) (by omega)
              have er := rbad _ cg (by rw [f4 q1 q2, if_neg c9]) hp
              have t8 : (upm Y 369 8 (ftT t L (lnE t L i) 1)) 369 8 = ftT t L (lnE t L i) 1 := upm_s _ _ _ _
              exact sX12_work_11 _ ⟨fun _ => sX12_work_194 _ ⟨fun q => by omega, fun _ => ⟨_, rfl, fun c p1 p2 => by rw [upm_off c p1]; exact y1 c p1 p2, fun j p1 p2 => by rw [upm_k p2]; exact y2 j p1 p2, by rw [t8, er], fun _ j p => by rw [upm_off 378 (by decide)]; exact y3 j p, fun q => by omega⟩⟩, fun q => by omega⟩
          -- the third part
          have thr : tlF t L (i + 1) (lnA nm R BT t L i) = 0 → ∀ Z : Mem, (∀ c, c ≠ 369 → c ≠ 378 → Z c = U c) → (∀ j, j ≠ 7 → j ≠ 8 → Z 369 j = U 369 j) → (∀ j, j < 95 → Z 378 j = U 378 j) → Z 369 8 = 0 → RS Z t L N (i + 2) → MW Z nm R BT t L n l → Z 378 (95 + 3 * n) = cT t L i - 131 → Z 377 = nm → Z 375 1 = (BT : Nat) → Wf K (d + 5) mX12_work 124 [some (vR 369), some (vI (n : Int)), some (vI (cT t L i - 131)), some (vI ((95 + 3 * n : Nat) : Int))] [vI (lnA nm R BT t L i), vI ((96 + 3 * n : Nat) : Int), vR 378] Z (fun r V' => ∃ z, r = some (vI z) ∧ MWp nm R BT t L U res z V') := by
            intro q1 Z z1 z2 z3 z8 zs zm zc zn zb
            refine sX12_work_124 _ _ _ _ _ ⟨⟨by omega, by omega⟩, ?_⟩
            rw [tn, ix78b hn]
            have y1 : ∀ c, c ≠ 369 → c ≠ 378 → (upm Z 378 (96 + 3 * n) (lnA nm R BT t L i)) c = U c := fun c p1 p2 => by rw [upm_off c p2]; exact z1 c p1 p2
            have y2 : ∀ j, j ≠ 7 → j ≠ 8 → (upm Z 378 (96 + 3 * n) (lnA nm R BT t L i)) 369 j = U 369 j := fun j p1 p2 => by rw [upm_off 369 (by decide)]; exact z2 j p1 p2
            have y3 : ∀ j, j < 95 → (upm Z 378 (96 + 3 * n) (lnA nm R BT t L i)) 378 j = U 378 j := fun j p => by rw [upm_k (by omega)]; exact z3 j p
            have y7 : (upm Z 378 (96 + 3 * n) (lnA nm R BT t L i)) 369 7 = ((i + 2 : Nat) : Int) := by rw [upm_off 369 (by decide)]; exact zs.1
            have y8 : (upm Z 378 (96 + 3 * n) (lnA nm R BT t L i)) 369 8 = 0 := by rw [upm_off 369 (by decide)]; exact z8
            have ys : RS (upm Z 378 (96 + 3 * n) (lnA nm R BT t L i)) t L N (i + 2) := zs.mov y7 zs.2.1 (upm_off 371 (by decide)) (upm_off 372 (by decide)) (upm_off 373 (by decide)) (upm_off 374 (by decide))
            have ym : MW (upm Z 378 (96 + 3 * n) (lnA nm R BT t L i)) nm R BT t L n l := fun k hk => by
              obtain ⟨m1, m2, m3⟩ := zm k hk
              exact ⟨by rw [upm_k (by omega)]; exact m1, by rw [upm_k (by omega)]; exact m2, by rw [upm_k (by omega)]; exact m3⟩
            have yc : (upm Z 378 (96 + 3 * n) (lnA nm R BT t L i)) 378 (95 + 3 * n) = cT t L i - 131 := by rw [upm_k (by omega)]; exact zc
            have ya : (upm Z 378 (96 + 3 * n) (lnA nm R BT t L i)) 378 (96 + 3 * n) = lnA nm R BT t L i := upm_s _ _ _ _
            have yn : (upm Z 378 (96 + 3 * n) (lnA nm R BT t L i)) 377 = nm := by rw [upm_off 377 (by decide)]; exact zn
            have yb : (upm Z 378 (96 + 3 * n) (lnA nm R BT t L i)) 375 1 = (BT : Nat) := by rw [upm_off 375 (by decide)]; exact zb
            generalize upm Z 378 (96 + 3 * n) (lnA nm R BT t L i) = Y at *
            have y1000 := ys.2.1
            -- on, or a fault
            have bad : ∀ (F v : Int) (T : Mem), lnF nm R BT t L i n = F → 0 < F → T = upm Y 369 8 F → Wf K (d + 5) mX12_work 181 [some (vR 369), some (vI (n : Int)), none, none] [vI v, vI ((97 + 3 * n : Nat) : Int), vR 378] T (fun r V' => ∃ z, r = some (vI z) ∧ MWp nm R BT t L U res z V') := by
              intro F v T p1 p2 p3
              have er := rbad F cg p1 p2
              exact m_work_bad3 (n := n) (j := i + 2) (by rw [p3, upm_s, er]) (by rw [er]; exact p2) (by rw [p3, upm_k (by decide)]; exact y7) (by omega) (fun c p1 p2 => by rw [p3, upm_off c p1]; exact y1 c p1 p2) (fun j p1 p2 => by rw [p3, upm_k p2]; exact y2 j p1 p2) (fun j p => by rw [p3, upm_off 378 (by decide)]; exact y3 j p) hn _ _ _ (by omega)
            have on : ln3 nm BT t L i = 0 → lnE t L i = i + 3 → gT t L (i + 2) ≠ 0 → ∀ (v : Int) (T : Mem), v = lnB nm BT t L i → T = upm Y 369 7 ((i + 2 + 1 : Nat) : Int) → Wf K (d + 5) mX12_work 181 [some (vR 369), some (vI (n : Int)), none, none] [vI v, vI ((97 + 3 * n : Nat) : Int), vR 378] T (fun r V' => ∃ z, r = some (vI z) ∧ MWp nm R BT t L U res z V') := by
              intro p1 p2 p3 v T p4 p5
              have hE2 := tk_nx hP ys.2.1 p3
              refine endd q1 p1 T v p4 (fun c p1 p2 => by rw [p5, upm_off c p1]; exact y1 c p1 p2) (fun j p1 p2 => by rw [p5, upm_k p1]; exact y2 j p1 p2) (fun j p => by rw [p5, upm_off 378 (by decide)]; exact y3 j p) (by rw [p5, upm_k (by decide)]; exact y8) ?_ (fun k hk => by rw [p5, upm_off 378 (by decide)]; exact ym k hk) (by rw [p5, upm_off 378 (by decide)]; exact yc) (by rw [p5, upm_off 378 (by decide)]; exact ya)
              rw [p2]
              exact ys.mov (by rw [p5, upm_s]) hE2 (by rw [p5, upm_off 371 (by decide)]) (by rw [p5, upm_off 372 (by decide)]) (by rw [p5, upm_off 373 (by decide)]) (by rw [p5, upm_off 374 (by decide)])
            have numb : ∀ hi : Int, ln3 nm BT t L i = nuF t L (i + 2) hi → lnE t L i = i + 3 → lnB nm BT t L i = nT t L (i + 2) → Mi K (d + 4) mX12_takeNumber [vR 369, vI 0, vI hi] Y (fun z T => Wf K (d + 5) mX12_work 181 [some (vR 369), some (vI (n : Int)), none, none] [vI z, vI ((97 + 3 * n : Nat) : Int), vR 378] T (fun r V' => ∃ z, r = some (vI z) ∧ MWp nm R BT t L U res z V')) := by
              intro hi e3 eE eB
              refine (m_takeNumber (d := d + 3) ys hL y8).use ?_
              rintro z T (⟨p1, p2, p3⟩ | ⟨p1, p2, p3, p4⟩ | ⟨p1, p2, p3, p4⟩)
              · have en : nuF t L (i + 2) hi = ftT t L (i + 2) 1 := if_neg p1
                exact bad _ _ T (by rw [f3 q1 (by rw [e3, en]; exact ft_nz (by omega)), e3, en]) (ft_pos (by omega)) p3
              · have en : nuF t L (i + 2) hi = ftT t L (i + 2) 4 := by unfold nuF; rw [if_pos p1, if_neg (by omega)]
                exact bad _ _ T (by rw [f3 q1 (by rw [e3, en]; exact ft_nz (by omega)), e3, en]) (ft_pos (by omega)) p4
              · have en : nuF t L (i + 2) hi = 0 := by unfold nuF; rw [if_pos p1, if_pos p2]
                exact on (by rw [e3, en]) eE (by omega) z T (by rw [p3, eB]) p4
            refine ⟨fun c5 => ⟨fun c6 => ⟨fun c7 => ?_, fun c7 => ?_⟩, fun c6 => ?_⟩, fun c5 => ?_⟩
            · -- cut, turn
              have e3 : ln3 nm BT t L i = 0 := by unfold ln3; rw [if_neg (by omega), if_neg (by omega), if_neg (by omega)]
              have eE : lnE t L i = i + 2 := if_pos (by omega)
              have eB : lnB nm BT t L i = 0 := by unfold lnB; rw [if_neg (by omega), if_neg (by omega)]
              exact endd q1 e3 Y 0 eB.symm y1 y2 y3 y8 (by rw [eE]; exact ys) ym yc ya
            · -- keep
              have e3 : ln3 nm BT t L i = tlF t L (i + 2) (lkT nm 4 BT t L (i + 2)) := by unfold ln3; rw [if_neg (by omega), if_neg (by omega), if_pos (by omega)]
              have eE : lnE t L i = i + 3 := if_neg (by omega)
              have eB : lnB nm BT t L i = lkT nm 4 BT t L (i + 2) := by unfold lnB; rw [if_neg (by omega), if_pos (by omega)]
              rw [yb]
              refine (m_takeTold (d := d + 1) (a := 4) (m := BT) ys hL y8 (by omega)).use ?_
              intro z T hT
              rw [yn] at hT
              rcases hT with ⟨p1, p2, p3⟩ | ⟨p1, p2, p3, p4⟩ | ⟨p1, p2, p3, p4⟩
              · have en : tlF t L (i + 2) (lkT nm 4 BT t L (i + 2)) = ftT t L (i + 2) 1 := if_neg (by rw [p1]; decide)
                exact bad _ _ T (by rw [f3 q1 (by rw [e3, en]; exact ft_nz (by omega)), e3, en]) (ft_pos (by omega)) p3
              · have en : tlF t L (i + 2) (lkT nm 4 BT t L (i + 2)) = ftT t L (i + 2) 2 := by unfold tlF; rw [if_pos p1, if_pos (show lkT nm 4 BT t L (i + 2) = -1 from p2)]
                exact bad _ _ T (by rw [f3 q1 (by rw [e3, en]; exact ft_nz (by omega)), e3, en]) (ft_pos (by omega)) p4
              · have en : tlF t L (i + 2) (lkT nm 4 BT t L (i + 2)) = 0 := by unfold tlF; rw [if_pos p1, if_neg (show ¬ lkT nm 4 BT t L (i + 2) = -1 from p2)]
                exact on (by rw [e3, en]) eE (nm_g p1) z T (by rw [p3, eB]; rfl) p4
            · exact numb 8 (by unfold ln3; rw [if_neg (by omega), if_pos (by omega)]) (if_neg (by omega)) (by unfold lnB; rw [if_pos (by omega)])
            · exact numb 99 (by unfold ln3; rw [if_pos (by omega)]) (if_neg (by omega)) (by unfold lnB; rw [if_pos (by omega)])
          -- the name
          have nam : ∀ a m : Nat, a + m ≤ 16 → lnA nm R BT t L i = lkT nm a m t L (i + 1) → Mi K (d + 4) mX12_takeTold [vR 369, vI (a : Int), vI (m : Int)] X (fun z T => Wf K (d + 5) mX12_work 124 [some (vR 369), some (vI (n : Int)), some (vI (cT t L i - 131)), some (vI ((95 + 3 * n : Nat) : Int))] [vI z, vI ((96 + 3 * n : Nat) : Int), vR 378] T (fun r V' => ∃ z, r = some (vI z) ∧ MWp nm R BT t L U res z V')) := by
            intro a m ha hl
            refine (m_takeTold (d := d + 1) xs hL x8 ha).use ?_
            intro z T hT
            rw [xn] at hT
            have bad : ∀ (F v : Int), lnF nm R BT t L i n = F → 0 < F → T = upm X 369 8 F → Wf K (d + 5) mX12_work 124 [some (vR 369), some (vI (n : Int)), some (vI (cT t L i - 131)), some (vI ((95 + 3 * n : Nat) : Int))] [vI v, vI ((96 + 3 * n : Nat) : Int), vR 378] T (fun r V' => ∃ z, r = some (vI z) ∧ MWp nm R BT t L U res z V') := by
              intro F v p1 p2 p3
              have er := rbad F cg p1 p2
              exact m_work_bad2 (n := n) (j := i + 1) (by rw [p3, upm_s, er]) (by rw [er]; exact p2) (by rw [p3, upm_k (by decide)]; exact x7) (by omega) (fun c p1 p2 => by rw [p3, upm_off c p1]; exact x1 c p1 p2) (fun j p1 p2 => by rw [p3, upm_k p2]; exact x2 j p1 p2) (fun j p => by rw [p3, upm_off 378 (by decide)]; exact x3 j p) (by omega) _ _ _
            rcases hT with ⟨p1, p2, p3⟩ | ⟨p1, p2, p3, p4⟩ | ⟨p1, p2, p3, p4⟩
            · have en : tlF t L (i + 1) (lnA nm R BT t L i) = ftT t L (i + 1) 1 := if_neg (by rw [p1]; decide)
              exact bad _ _ (by rw [f2 (by rw [en]; exact ft_nz (by omega)), en]) (ft_pos (by omega)) p3
            · have en : tlF t L (i + 1) (lnA nm R BT t L i) = ftT t L (i + 1) 2 := by unfold tlF; rw [if_pos p1, if_pos (by rw [hl]; exact p2)]
              exact bad _ _ (by rw [f2 (by rw [en]; exact ft_nz (by omega)), en]) (ft_pos (by omega)) p4
            · have en : tlF t L (i + 1) (lnA nm R BT t L i) = 0 := by unfold tlF; rw [if_pos p1, if_neg (by rw [hl]; exact p2)]
              have ez : z = lnA nm R BT t L i := by rw [hl]; exact p3
              have hE3 := tk_nx hP xs.2.1 (nm_g p1)
              rw [ez]
              refine thr en T (fun c p1 p2 => by rw [p4, upm_off c p1]; exact x1 c p1 p2) (fun j p1 p2 => by rw [p4, upm_k p1]; exact x2 j p1 p2) (fun j p => by rw [p4, upm_off 378 (by decide)]; exact x3 j p) (by rw [p4, upm_k (by decide)]; exact x8) (xs.mov (by rw [p4, upm_s]) hE3 (by rw [p4, upm_off 371 (by decide)]) (by rw [p4, upm_off 372 (by decide)]) (by rw [p4, upm_off 373 (by decide)]) (by rw [p4, upm_off 374 (by decide)])) (fun k hk => by rw [p4, upm_off 378 (by decide)]; exact xm k hk) (by rw [p4, upm_off 378 (by decide)]; exact xc) (by rw [p4, upm_off 377 (by decide)]; exact xn) (by rw [p4, upm_off 375 (by decide), x1 375 (by decide) (by decide)]; exact hB)
          refine ⟨fun c4 => nam 4 BT (by omega) (if_neg (by omega)), fun c4 => nam 0 R (by omega) (if_pos (by omega))⟩
        · have f5 : lnF nm R BT t L i n = ftT t L i 5 := by unfold lnF; rw [if_neg cR, if_pos (by omega)]
          rw [a1, tn, b1, ftT_w hL (by omega)]
          have hp := ft_pos (t := t) (L := L) (i := i) (w := 5) (by omega)
          have er := rbad _ cg f5 hp
          exact ⟨⟨by omega, by omega⟩, m_work_bad (d := d) (j := i) (by rw [upm_s, er]) (by rw [er]; exact hp) (by rw [upm_k (by decide)]; exact a1) (by omega) (fun c p1 p2 => by rw [upm_off c p1]; exact g1 c p1 p2) (fun j p1 p2 => by rw [upm_k p2]; exact g2 j p1 p2) (fun j p => by rw [upm_off 378 (by decide)]; exact g3 j p) _⟩
end MWL
