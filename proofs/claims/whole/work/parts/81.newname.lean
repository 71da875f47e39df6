/-! ===== drafts of rows and braids: told by their first tokens ===== -/
/-- how many numbers up to hi stand from the token i on, at most f -/
def nrR (hi : Int) (t : Nat → Int) (L : Nat) : Nat → Nat → Nat
  | 0, _ => 0
  | f + 1, i => if gT t L i = 3 ∧ nT t L i ≤ hi then nrR hi t L f (i + 1) + 1 else 0
theorem nr_un {hi : Int} {t : Nat → Int} {L : Nat} : ∀ f i j : Nat, j ≤ f → (∀ k, k < j → gT t L (i + k) = 3 ∧ nT t L (i + k) ≤ hi) → (j = f ∨ ¬ (gT t L (i + j) = 3 ∧ nT t L (i + j) ≤ hi)) → nrR hi t L f i = j
  | 0, i, j, h, _, _ => by
    have e : j = 0 := by omega
    rw [e]
    rfl
  | f + 1, i, 0, _, _, h2 => by
    have q : ¬ (gT t L i = 3 ∧ nT t L i ≤ hi) := h2.elim (fun x => by omega) id
    exact if_neg q
  | f + 1, i, j + 1, h, h1, h2 => by
    have q : gT t L i = 3 ∧ nT t L i ≤ hi := h1 0 (by omega)
    have e : nrR hi t L (f + 1) i = nrR hi t L f (i + 1) + 1 := if_pos q
    have ih := nr_un (hi := hi) (t := t) (L := L) f (i + 1) j (by omega) (fun k hk => by
      rw [show i + 1 + k = i + (k + 1) by omega]
      exact h1 (k + 1) (by omega)) (by
      rw [show i + 1 + j = i + (j + 1) by omega]
      exact h2.elim (fun x => Or.inl (by omega)) Or.inr)
    rw [e, ih]
theorem nr_at {hi : Int} {t : Nat → Int} {L : Nat} : ∀ f i : Nat, nrR hi t L f i ≤ f ∧ ∀ k, k < nrR hi t L f i → gT t L (i + k) = 3 ∧ nT t L (i + k) ≤ hi
  | 0, i => ⟨Nat.le_refl _, fun k hk => by have : k < 0 := hk; omega⟩
  | f + 1, i => by
    by_cases q : gT t L i = 3 ∧ nT t L i ≤ hi
    · have e : nrR hi t L (f + 1) i = nrR hi t L f (i + 1) + 1 := if_pos q
      obtain ⟨h1, h2⟩ := nr_at (hi := hi) (t := t) (L := L) f (i + 1)
      rw [e]
      refine ⟨by omega, fun k hk => ?_⟩
      cases k with
      | zero => exact q
      | succ k =>
        have := h2 k (by omega)
        rw [show i + 1 + k = i + (k + 1) by omega] at this
        exact this
    · have e : nrR hi t L (f + 1) i = 0 := if_neg q
      rw [e]
      exact ⟨by omega, fun k hk => by omega⟩
/-- is the name at token i told already -/
def dpT (R B : Nat) (rI bI : Nat → Nat) (t : Nat → Int) (L i : Nat) : Bool := decide (fsN (fun r => wT 37 t L (rI r + 1)) (wT 37 t L i) R ≠ -1 ∨ fsN (fun r => wT 37 t L (bI r + 1)) (wT 37 t L i) B ≠ -1)
/-- a new name's fault, or 0 -/
def nnF (R B : Nat) (rI bI : Nat → Nat) (t : Nat → Int) (L i : Nat) : Int := if nmT t L i = true then (if dpT R B rI bI t L i = true then ftT t L i 3 else 0) else ftT t L i 1
/-- the class's drafts have these names -/
def XN (V : Mem) (t : Nat → Int) (L R B : Nat) (rI bI : Nat → Nat) : Prop := V 5 5 = (R : Nat) ∧ V 5 6 = (B : Nat) ∧ R ≤ 4 ∧ B ≤ 4 ∧ (∀ r, r < R → V (11 + 2 * r) 1 = wT 32 t L (rI r + 1) ∧ gT t L (rI r + 1) = 2) ∧ ∀ b, b < B → V (19 + 2 * b) 1 = wT 32 t L (bI b + 1) ∧ gT t L (bI b + 1) = 2
theorem XN.congr {V V' : Mem} {t : Nat → Int} {L R B : Nat} {rI bI : Nat → Nat} (h : XN V t L R B rI bI) (h1 : ∀ c, 5 ≤ c → c ≤ 34 → V' c = V c) : XN V' t L R B rI bI := by
  obtain ⟨a1, a2, a3, a4, a5, a6⟩ := h
  exact ⟨by rw [h1 5 (by omega) (by omega)]; exact a1, by rw [h1 5 (by omega) (by omega)]; exact a2, a3, a4, fun r hr => by rw [h1 (11 + 2 * r) (by omega) (by omega)]; exact a5 r hr, fun b hb => by rw [h1 (19 + 2 * b) (by omega) (by omega)]; exact a6 b hb⟩
/-- found by fives or by sevens: the same -/
theorem fs_none {f g : Nat → Int} {x y z : Int} {n : Nat} (hn : ∀ r, r < n → nmC (f r) (g r)) (hxy : nmC x y) (h : isFst f n x z) : z = -1 ↔ fsN g y n = -1 := by
  rcases h with ⟨h1, h2⟩ | ⟨s, h1, h2, h3, h4⟩ <;> rcases fsN_v (f := g) (e := y) n with ⟨k1, k2⟩ | ⟨r, k1, k2, k3⟩
  · exact ⟨fun _ => k1, fun _ => h1⟩
  · exact absurd ((nm_iff (hn r k2) hxy).2 k3) (h2 r k2)
  · exact absurd ((nm_iff (hn s h2) hxy).1 h3) (k2 s h2)
  · exact ⟨fun q => by omega, fun q => by omega⟩
section NNM
variable {K : KK} {d : Nat} {V : Mem} {t : Nat → Int} {L i R B : Nat} {rI bI : Nat → Nat}
theorem c_readNewName (hS : TSg K (d + 1)) (hE : TE V t L) (hN : XN V t L R B rI bI) (h2 : V 1 2 = (L : Nat)) (h3 : V 1 3 = (bpT t L i : Nat)) : Mi K (d + 3) mX5_readNewName [vR 4, vR 1] V (fun z V' => (∀ c, c ≠ 1 → c ≠ 4 → V' c = V c) ∧ (∀ j, j ≠ 8 → V' 4 j = V 4 j) ∧ XA V' t L i ∧ ((nnF R B rI bI t L i = 0 ∧ z = 1 ∧ V' 4 8 = V 4 8) ∨ (nnF R B rI bI t L i ≠ 0 ∧ z = 0 ∧ V' 4 8 = nnF R B rI bI t L i))) := by
  refine sX5_readNewName ((c_adv (d := d) hS hE h2 h3).imp ?_)
  rintro r W ⟨w0, w1, w2⟩
  have hE' : TE W t L := hE.congr (w1 2 (by decide)) (w1 3 (by decide))
  have hN' : XN W t L R B rI bI := hN.congr (fun c q1 q2 => w1 c (by omega))
  obtain ⟨n1, n2, n3, n4, n5, n6⟩ := hN'
  have bad : ∀ w : Int, 0 < w ∧ w ≤ 9 → nnF R B rI bI t L i = ftT t L i w → ∃ z, some (vI 0) = some (vI z) ∧ (∀ c, c ≠ 1 → c ≠ 4 → (upm W 4 8 (w32 (w + w32 (16 * W 1 5)))) c = V c) ∧ (∀ j, j ≠ 8 → (upm W 4 8 (w32 (w + w32 (16 * W 1 5)))) 4 j = V 4 j) ∧ XA (upm W 4 8 (w32 (w + w32 (16 * W 1 5)))) t L i ∧ ((nnF R B rI bI t L i = 0 ∧ z = 1 ∧ (upm W 4 8 (w32 (w + w32 (16 * W 1 5)))) 4 8 = V 4 8) ∨ (nnF R B rI bI t L i ≠ 0 ∧ z = 0 ∧ (upm W 4 8 (w32 (w + w32 (16 * W 1 5)))) 4 8 = nnF R B rI bI t L i)) := by
    intro w hw e
    refine ⟨0, rfl, fun c q1 q2 => by rw [upm_off c q2]; exact w1 c q1, fun j q => by rw [upm_k q, w1 4 (by decide)], w2.congr (upm_off 1 (by decide)), Or.inr ⟨by rw [e]; exact ft_nz hw.1, rfl, ?_⟩⟩
    rw [upm_s, e]
    exact ftX hE' w2 (by omega)
  refine ⟨w0, (c_isName (d := d + 2) w2).use ?_⟩
  by_cases c : nmT t L i = true
  · rw [if_pos c]
    have g2 : gT t L i = 2 := (of_decide_eq_true c).1
    have e8 : W 1 8 = wT 32 t L i := w2.2.2.2.2.2.2 g2
    have hnm : nmC (wT 32 t L i) (wT 37 t L i) := tk_nm g2
    refine ⟨fun _ => (c_rowNamed (d := d + 2) is5 n1 n3 _).use ?_, fun q => absurd q (by decide)⟩
    rintro z W' ⟨k1, k2⟩
    subst k2
    rw [e8] at k1
    have r1 : z = -1 ↔ fsN (fun r => wT 37 t L (rI r + 1)) (wT 37 t L i) R = -1 := fs_none (g := fun r => wT 37 t L (rI r + 1)) (fun r hr => by
      show nmC (W' (11 + 2 * r) 1) (wT 37 t L (rI r + 1))
      rw [(n5 r hr).1]
      exact tk_nm (n5 r hr).2) hnm k1
    have told : dpT R B rI bI t L i = true → nnF R B rI bI t L i = ftT t L i 3 := fun q => by unfold nnF; rw [if_pos c, if_pos q]
    refine ⟨fun q => bad 3 (by omega) (told (decide_eq_true (Or.inl (fun x => q (r1.2 x))))), fun q => (c_braidNamed (d := d + 2) is5 n2 (by omega) _).use ?_⟩
    rintro z2 W2 ⟨k3, k4⟩
    subst k4
    rw [e8] at k3
    have r2 : z2 = -1 ↔ fsN (fun r => wT 37 t L (bI r + 1)) (wT 37 t L i) B = -1 := fs_none (g := fun r => wT 37 t L (bI r + 1)) (fun r hr => by
      show nmC (W2 (19 + 2 * r) 1) (wT 37 t L (bI r + 1))
      rw [(n6 r hr).1]
      exact tk_nm (n6 r hr).2) hnm k3
    refine ⟨fun q2 => ⟨1, rfl, fun c q1 q2 => w1 c q1, fun j _ => by rw [w1 4 (by decide)], w2, Or.inl ⟨?_, rfl, by rw [w1 4 (by decide)]⟩⟩, fun q2 => bad 3 (by omega) (told (decide_eq_true (Or.inr (fun x => q2 (r2.2 x)))))⟩
    unfold nnF
    rw [if_pos c, if_neg (fun x => (of_decide_eq_true x).elim (fun y => y (r1.1 q)) (fun y => y (r2.1 q2)))]
  · rw [if_neg c]
    exact ⟨fun q => absurd rfl q, fun _ => bad 1 (by omega) (if_neg c)⟩
end NNM
