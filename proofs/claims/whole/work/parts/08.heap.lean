/-! ===== rows of the small machine: the heap ===== -/
def CLS (c : Nat) (C : String) (T : u_T) (N : Nat) : Prop := c < 13 ∧ vwCl[c]? = some (C, T, N) ∧ (∀ w ∈ u_ws C T N, w ∈ tb) ∧ (∀ k, k < N → parseFieldDescriptor (T k).2.2.1 = some (fty c k)) ∧ (∀ a, a < N → ∀ b, b < N → a ≠ b → (T a).2.1 ≠ (T b).2.1)
/-- the entry idx of own's pool is the field k of class c -/
def FLD (own : String) (idx c k : Nat) : Prop := ∃ (C : String) (T : u_T) (N : Nat), CLS c C T N ∧ k < N ∧ Cond.fieldLink own idx (T k).1 (T k).2.1 (T k).2.2.1 ∈ tb
/-- .. and isn't final -/
def FLW (own : String) (idx c k : Nat) : Prop := ∃ (C : String) (T : u_T) (N : Nat), CLS c C T N ∧ k < N ∧ Cond.fieldLink own idx (T k).1 (T k).2.1 (T k).2.2.1 ∈ tb ∧ (T k).2.2.2 = false
/-- .. and is final, of own itself -/
def FLF (own : String) (idx c k : Nat) : Prop := ∃ (C : String) (T : u_T) (N : Nat), CLS c C T N ∧ k < N ∧ Cond.fieldLink own idx (T k).1 (T k).2.1 (T k).2.2.1 ∈ tb ∧ (T k).2.2.2 = true ∧ (T k).1 = own
def fk (ty : FieldType) : Nat := match ty with
  | .long => 1
  | .object _ => 2
  | .array _ => 2
  | _ => 0
theorem av_0 {ty : FieldType} {r : Option Nat} {x : Int} (h : fk ty = 0) : av ty r x = vI x := by cases ty <;> first | rfl | (simp [fk] at h)
theorem av_1 {ty : FieldType} {r : Option Nat} {x : Int} (h : fk ty = 1) : av ty r x = vJ x := by cases ty <;> first | rfl | (simp [fk] at h)
theorem av_2 {ty : FieldType} {r : Option Nat} {x : Int} (h : fk ty = 2) : av ty r x = .inr (.inr (.inl r)) := by cases ty <;> first | rfl | (simp [fk] at h)
theorem okv_av {ty : FieldType} {r : Option Nat} {x : Int} (h : okv (av ty none x)) : okv (av ty r x) := by cases ty <;> first | exact h | exact trivial
theorem okc_o {c n k : Nat} {rs : List (Option Nat)} {x : Int} (hc : c < 13) : okc (c, n, rs) k x ↔ okv (av (fty c k) none x) := by unfold okc; rw [if_pos hc]
theorem okc_i {c n k : Nat} {rs : List (Option Nat)} {x : Int} (hc : c = 13 ∨ c = 14 ∨ c = 16) (h : okc (c, n, rs) k x) : r32 x := by
  unfold okc at h
  rcases hc with rfl | rfl | rfl <;> (simp at h; exact h)
theorem okc_i2 {c n k : Nat} {rs : List (Option Nat)} {x : Int} (hc : c = 13 ∨ c = 14 ∨ c = 16) (h : r32 x) : okc (c, n, rs) k x := by
  unfold okc
  rcases hc with rfl | rfl | rfl <;> (simp; exact h)
theorem okc_j {n k : Nat} {rs : List (Option Nat)} {x : Int} : okc (15, n, rs) k x ↔ r64 x := by
  unfold okc; simp
/-- one cell is new, the others are as they were -/
theorem Rel.cell {K : KK} {sh : List SC} {V : Mem} {H H1 : Heap} {a k : Nat} {q : SC} {x : Int} (hR : Rel K sh V H) (hq : sh[a]? = some q) (he : va_at (kD K) vwCl (kB K + a, cE K q (upm V a k x a)) H1) (hx : okc q k x) (z : H1.size = H.size) (oq : ∀ p, p ≠ kB K + a → H1[p]? = H[p]?) : Rel K sh (upm V a k x) H1 := by
  refine ⟨?_, fun b q2 j hb hj => ?_, fun hE => by rw [z]; exact hR.2.2 hE⟩
  · rw [← wsO_set (V' := upm V a k x) hq upm_off]
    exact hR.1.set (wsO_D K sh V) (wsO_at hq) he oq
  · by_cases hba : b = a
    · subst hba
      cases hq.symm.trans hb
      by_cases hjk : j = k
      · subst hjk
        rw [upm_s]; exact hx
      · rw [upm_k hjk]; exact hR.2.1 b q j hb hj
    · rw [upm_a hba]; exact hR.2.1 b q2 j hb hj
/-- a field as the words of its class tell it: found, at its slot, no static one; its class is at hand -/
theorem fd_kn {s : State} {args : Array Value} {D : va_G} {cl : List vw_C} {tys : List (ClassId × FieldType)} {c k N : Nat} {C : String} {T : u_T} (hw : ∀ w ∈ u_ws C T N, w.before args s = true) (hK : va_K D cl tys s) (hcl : cl[c]? = some (C, T, N)) (hk : k < N) :
    ∃ (cf : ClassId) (kf : Class) (fi : Nat) (f : Field) (kC : Class), (s.vm.findClass C = some (D.1 c) ∧ s.vm.classes[D.1 c]? = some kC ∧ kC.kind = .ordinary) ∧ s.fieldFound? (T k).1 (T k).2.1 (T k).2.2.1 = some (cf, kf, fi, f) ∧ f.slot = D.2 c k ∧ f.isStatic = false ∧ (u_lay C T k).before args s = true := by
  have ⟨sl, a0, kC, a1, a2⟩ := hK.1 c _ hcl
  have ⟨cf, kf, fi, f, b1, b2⟩ := sl k hk
  exact ⟨cf, kf, fi, f, kC, ⟨a0, a1, a2⟩, b1, b2, (u_facts a0 a1 (u_lays hw (fun _ q => q) hk) b1).1, hw _ (u_in_lay hk)⟩
theorem lay_b {C : String} {T : u_T} {k : Nat} {b : Bool} (h : (T k).2.2.2 = b) : u_lay C T k = cond b (.laysFinal C (T k).1 (T k).2.1 (T k).2.2.1) (.lays C (T k).1 (T k).2.1 (T k).2.2.1) := by
  unfold u_lay
  rw [h]
  cases b <;> rfl
section WPH
variable {K : KK} {d : Nat} {y : MI} {mc ms pc : Nat} {L : List (Option AV)} {S : List AV} {cl sl : Nat} {sh : List SC} {V : Mem} {Q : Option AV → List SC → Mem → Prop}
theorem wp_get {idx a c k n : Nat} {rs : List (Option Nat)} (hd : decode y.2.1 pc = .ok (.getfield idx, 3)) (hf : FLD y.1.cls idx c k) (hq : sh[a]? = some (c, n, rs)) (hk : k < n) (h : Wp K d y mc ms (pc + 3) L (av (fty c k) (rs.getD k none) (V a k) :: S) cl sl sh V Q) : Wp K d y mc ms pc L (vR a :: S) cl sl sh V Q := by
  intro p e s m args below meth c0 H locs ls hC hR hS hL hV
  have hx := hC.1
  have hb := hC.2.1
  obtain ⟨C, T, N, ⟨hc13, hcl, hin, hty, hnm⟩, hkN, hlk⟩ := hf
  have hts := hC.2.2.2.2.2.1
  have hK := hC.2.2.2.2.2.2.2.1
  have he := wsO_at (K := K) (V := V) hq
  rw [cE_o hc13] at he
  refine va_get (D := kD K) (cl := vwCl) (tys := tyL K) (ws := wsO K sh V) (ci := c) (C := C) (T := T) (N := N) hx hb (Ts := tb) hts hin hC.2.2.2.2.1 hK hR.1 a he hcl k hkN (hts _ hlk) (fun _ h9 => h9) (fs_at hk) hd ?_
  exact h p e s m args below meth c0 H locs ls hC hR hS hL (okS_c (okv_av ((okc_o hc13).mp (hR.2.1 a _ k hq hk))) (okS_t hV))
theorem wp_getI {idx a c k n : Nat} {rs : List (Option Nat)} (hd : decode y.2.1 pc = .ok (.getfield idx, 3)) (hf : FLD y.1.cls idx c k) (hi : fk (fty c k) = 0) (hq : sh[a]? = some (c, n, rs)) (hk : k < n) (h : Wp K d y mc ms (pc + 3) L (vI (V a k) :: S) cl sl sh V Q) : Wp K d y mc ms pc L (vR a :: S) cl sl sh V Q :=
  wp_get hd hf hq hk (by rw [av_0 hi]; exact h)
theorem wp_getJ {idx a c k n : Nat} {rs : List (Option Nat)} (hd : decode y.2.1 pc = .ok (.getfield idx, 3)) (hf : FLD y.1.cls idx c k) (hi : fk (fty c k) = 1) (hq : sh[a]? = some (c, n, rs)) (hk : k < n) (h : Wp K d y mc ms (pc + 3) L (vJ (V a k) :: S) cl sl sh V Q) : Wp K d y mc ms pc L (vR a :: S) cl sl sh V Q :=
  wp_get hd hf hq hk (by rw [av_1 hi]; exact h)
theorem wp_getR {idx a c k n b : Nat} {rs : List (Option Nat)} (hd : decode y.2.1 pc = .ok (.getfield idx, 3)) (hf : FLD y.1.cls idx c k) (hi : fk (fty c k) = 2) (hq : sh[a]? = some (c, n, rs)) (hk : k < n) (hr : rs.getD k none = some b) (h : Wp K d y mc ms (pc + 3) L (vR b :: S) cl sl sh V Q) : Wp K d y mc ms pc L (vR a :: S) cl sl sh V Q :=
  wp_get hd hf hq hk (by rw [av_2 hi, hr]; exact h)
theorem wp_put {idx a c k n : Nat} {rs : List (Option Nat)} {x : Int} {v : AV} (hd : decode y.2.1 pc = .ok (.putfield idx, 3)) (hf : FLW y.1.cls idx c k) (hv : v = av (fty c k) (rs.getD k none) x) (hn : narrow (fty c k) (cv K v) = cv K v) (hfit : fits (fty c k) (cv K v) = true) (hq : sh[a]? = some (c, n, rs)) (hk : k < n) (h : Wp K d y mc ms (pc + 3) L S cl sl sh (upm V a k x) Q) : Wp K d y mc ms pc L (v :: vR a :: S) cl sl sh V Q := by
  intro p e s m args below meth c0 H locs ls hC hR hS hL hV
  have hx := hC.1
  have hb := hC.2.1
  obtain ⟨C, T, N, ⟨hc13, hcl, hin, hty, hnm⟩, hkN, hlk, hfin⟩ := hf
  have hts := hC.2.2.2.2.2.1
  have hK := hC.2.2.2.2.2.2.2.1
  have he := wsO_at (K := K) (V := V) hq
  rw [cE_o hc13] at he
  have hap := va_apart (own := y.1.cls) hts hin (fty c) hty hnm hK hcl
  have ⟨cf, kf, fi, f, kC, ⟨z1, z2, z3⟩, ff, hsl, hst, lay⟩ := fd_kn (fun w hw => hts w (hin w hw)) hK hcl hkN
  rw [lay_b hfin] at lay
  have ⟨r, h1, ob, q1, q2, q3, q4⟩ := hR.1 a _ he
  cases Option.some.inj (h1.symm.trans hcl)
  have room : k2_Sd s f ob.cls (cv K v) := q2 ▸ u_store z1 z2 z3 lay ff (hty k hkN) hn hfit
  refine W.putK hx hb ⟨hC.2.2.2.2.1, hts _ hlk, ⟨cf, kf, fi, ff⟩, hst⟩ room q1 q3 (hsl ▸ k2_hasslot (q4 k hkN)) rfl rfl hd fun H' e1 e2 e3 => ?_
  rw [hsl] at e1 ⊢
  have hok : okc (c, n, rs) k x := by
    rw [okc_o hc13]
    have h9 := okS_h hV
    rw [hv] at h9
    generalize fty c k = ty at h9 ⊢
    cases ty <;> first | exact h9 | exact trivial
  refine h p e s m args below meth c0 H' _ ls hC (hR.cell hq ?_ hok e2 e3) (hS.put e2 e3 (show kB K ≤ kB K + a by omega)) hL (okS_t (okS_t hV))
  rw [cE_o hc13]
  refine ⟨_, hcl, t_OB.to (V := updV (vp_V ((List.range n).map (fun k => cv K (av (fty c k) (rs.getD k none) (V a k))))) k (cv K v)) ⟨_, e1, q2, q3, t_set q4 hap hkN (cv K v)⟩ (fun j _ => ?_)⟩
  rw [vp_updV_set (by simpa using hk), rng_set (g := fun j => cv K (av (fty c j) (rs.getD j none) (upm V a k x a j)))]
  · rw [upm_s, hv]
  · intro j hj
    rw [upm_k hj]
theorem wp_putI {idx a c k n : Nat} {rs : List (Option Nat)} {x : Int} (hd : decode y.2.1 pc = .ok (.putfield idx, 3)) (hf : FLW y.1.cls idx c k) (hi : fty c k = .int) (hq : sh[a]? = some (c, n, rs)) (hk : k < n) (h : Wp K d y mc ms (pc + 3) L S cl sl sh (upm V a k x) Q) : Wp K d y mc ms pc L (vI x :: vR a :: S) cl sl sh V Q :=
  wp_put hd hf (by rw [hi]; rfl) (by rw [hi]; rfl) (by rw [hi]; rfl) hq hk h
theorem wp_putJ {idx a c k n : Nat} {rs : List (Option Nat)} {x : Int} (hd : decode y.2.1 pc = .ok (.putfield idx, 3)) (hf : FLW y.1.cls idx c k) (hi : fty c k = .long) (hq : sh[a]? = some (c, n, rs)) (hk : k < n) (h : Wp K d y mc ms (pc + 3) L S cl sl sh (upm V a k x) Q) : Wp K d y mc ms pc L (vJ x :: vR a :: S) cl sl sh V Q :=
  wp_put hd hf (by rw [hi]; rfl) (by rw [hi]; rfl) (by rw [hi]; rfl) hq hk h
theorem nar_z {x : Int} (h : x = 0 ∨ x = 1) : narrow .boolean (.int (Int32.ofInt x)) = .int (Int32.ofInt x) := by
  rcases h with rfl | rfl <;> decide
theorem fit_z {x : Int} (h : x = 0 ∨ x = 1) : fits .boolean (.int (Int32.ofInt x)) = true := by
  rcases h with rfl | rfl <;> decide
theorem wp_putZ {idx a c k n : Nat} {rs : List (Option Nat)} {x : Int} (hd : decode y.2.1 pc = .ok (.putfield idx, 3)) (hf : FLW y.1.cls idx c k) (hi : fty c k = .boolean) (hq : sh[a]? = some (c, n, rs)) (hk : k < n) (hz : x = 0 ∨ x = 1) (h : Wp K d y mc ms (pc + 3) L S cl sl sh (upm V a k x) Q) : Wp K d y mc ms pc L (vI x :: vR a :: S) cl sl sh V Q :=
  wp_put hd hf (by rw [hi]; rfl) (by rw [hi]; exact nar_z hz) (by rw [hi]; exact fit_z hz) hq hk h
/-! arrays -/
theorem wp_alen {a c n : Nat} {rs : List (Option Nat)} (hd : decode y.2.1 pc = .ok (.arraylength, 1)) (hq : sh[a]? = some (c, n, rs)) (hc : 13 ≤ c ∧ c ≤ 20) (hn : n < 2147483648) (h : Wp K d y mc ms (pc + 1) L (vI (n : Int) :: S) cl sl sh V Q) : Wp K d y mc ms pc L (vR a :: S) cl sl sh V Q := by
  intro p e s m args below meth c0 H locs ls hC hR hS hL hV
  have he := wsO_at (K := K) (V := V) hq
  have key : ∃ (x : vp_A) (ty : FieldType) (t0 : Nat), cE K (c, n, rs) (V a) = .inl (kY K c, x) ∧ x.1 = n ∧ (tyL K)[t0]? = some (kY K c, ty) := by
    have hc' : c = 13 ∨ c = 14 ∨ c = 15 ∨ c = 16 ∨ c = 17 ∨ c = 18 ∨ c = 19 ∨ c = 20 := by omega
    rcases hc' with rfl | rfl | rfl | rfl | rfl | rfl | rfl | rfl
    · exact ⟨_, _, 0, rfl, rfl, rfl⟩
    · exact ⟨_, _, 1, rfl, rfl, rfl⟩
    · exact ⟨_, _, 2, rfl, rfl, rfl⟩
    · exact ⟨_, _, 3, rfl, rfl, rfl⟩
    · exact ⟨_, _, 4, rfl, rfl, rfl⟩
    · exact ⟨_, _, 5, rfl, rfl, rfl⟩
    · exact ⟨_, _, 6, rfl, rfl, rfl⟩
    · exact ⟨_, _, 7, rfl, rfl, rfl⟩
  obtain ⟨x, ty, t0, e1, e2, e3⟩ := key
  rw [e1] at he
  refine va_alen (D := kD K) (cl := vwCl) (tys := tyL K) (ws := wsO K sh V) hC.1 hC.2.1 hC.2.2.2.2.2.2.2.1 hR.1 a t0 he e3 (v := Int32.ofInt (n : Int)) (by rw [e2]; exact Int32.ofInt_eq_ofNat.symm) hd ?_
  exact h p e s m args below meth c0 H locs ls hC hR hS hL (okS_c (show r32 _ from ⟨by omega, by omega⟩) (okS_t hV))
theorem wp_iald {a n : Nat} {rs : List (Option Nat)} {i : Int} (hd : decode y.2.1 pc = .ok (.iaload, 1)) (hq : sh[a]? = some (14, n, rs)) (hi : 0 ≤ i ∧ i < n) (h : Wp K d y mc ms (pc + 1) L (vI (V a i.toNat) :: S) cl sl sh V Q) : Wp K d y mc ms pc L (vI i :: vR a :: S) cl sl sh V Q := by
  intro p e s m args below meth c0 H locs ls hC hR hS hL hV
  have ri : r32 i := okS_h hV
  have he := wsO_at (K := K) (V := V) hq
  refine va_iald (D := kD K) (cl := vwCl) (tys := tyL K) (ws := wsO K sh V) (f := fun k => Int32.ofInt (V a k)) hC.1 hC.2.1 hC.2.2.2.2.2.2.2.1 hR.1 a 1 he rfl (i32_in ri hi.1 hi.2) hd ?_
  rw [i32_cl ri]
  exact h p e s m args below meth c0 H locs ls hC hR hS hL (okS_c (show r32 (V a i.toNat) from (okc_i (by decide) (hR.2.1 a _ i.toNat hq (by show i.toNat < n; omega)))) (okS_t (okS_t hV)))
theorem wp_cald {a n : Nat} {rs : List (Option Nat)} {i : Int} (hd : decode y.2.1 pc = .ok (.caload, 1)) (hq : sh[a]? = some (13, n, rs)) (hi : 0 ≤ i ∧ i < n) (h : Wp K d y mc ms (pc + 1) L (vI (V a i.toNat) :: S) cl sl sh V Q) : Wp K d y mc ms pc L (vI i :: vR a :: S) cl sl sh V Q := by
  intro p e s m args below meth c0 H locs ls hC hR hS hL hV
  have ri : r32 i := okS_h hV
  have he := wsO_at (K := K) (V := V) hq
  refine va_cald (D := kD K) (cl := vwCl) (tys := tyL K) (ws := wsO K sh V) (f := fun k => Int32.ofInt (V a k)) hC.1 hC.2.1 hC.2.2.2.2.2.2.2.1 hR.1 a 0 he rfl (i32_in ri hi.1 hi.2) hd ?_
  rw [i32_cl ri]
  exact h p e s m args below meth c0 H locs ls hC hR hS hL (okS_c (show r32 (V a i.toNat) from (okc_i (by decide) (hR.2.1 a _ i.toNat hq (by show i.toNat < n; omega)))) (okS_t (okS_t hV)))
theorem wp_zald {a n : Nat} {rs : List (Option Nat)} {i : Int} (hd : decode y.2.1 pc = .ok (.baload, 1)) (hq : sh[a]? = some (16, n, rs)) (hi : 0 ≤ i ∧ i < n) (h : Wp K d y mc ms (pc + 1) L (vI (V a i.toNat) :: S) cl sl sh V Q) : Wp K d y mc ms pc L (vI i :: vR a :: S) cl sl sh V Q := by
  intro p e s m args below meth c0 H locs ls hC hR hS hL hV
  have ri : r32 i := okS_h hV
  have he := wsO_at (K := K) (V := V) hq
  refine va_zald (D := kD K) (cl := vwCl) (tys := tyL K) (ws := wsO K sh V) (f := fun k => Int32.ofInt (V a k)) hC.1 hC.2.1 hC.2.2.2.2.2.2.2.1 hR.1 a 3 he rfl (i32_in ri hi.1 hi.2) hd ?_
  rw [i32_cl ri]
  exact h p e s m args below meth c0 H locs ls hC hR hS hL (okS_c (show r32 (V a i.toNat) from (okc_i (by decide) (hR.2.1 a _ i.toNat hq (by show i.toNat < n; omega)))) (okS_t (okS_t hV)))
theorem wp_lald {a n : Nat} {rs : List (Option Nat)} {i : Int} (hd : decode y.2.1 pc = .ok (.laload, 1)) (hq : sh[a]? = some (15, n, rs)) (hi : 0 ≤ i ∧ i < n) (h : Wp K d y mc ms (pc + 1) L (vJ (V a i.toNat) :: S) cl sl sh V Q) : Wp K d y mc ms pc L (vI i :: vR a :: S) cl sl sh V Q := by
  intro p e s m args below meth c0 H locs ls hC hR hS hL hV
  have ri : r32 i := okS_h hV
  have he := wsO_at (K := K) (V := V) hq
  refine va_lald (D := kD K) (cl := vwCl) (tys := tyL K) (ws := wsO K sh V) (f := fun k => Int64.ofInt (V a k)) hC.1 hC.2.1 hC.2.2.2.2.2.2.2.1 hR.1 a 2 he rfl (i32_in ri hi.1 hi.2) hd ?_
  rw [i32_cl ri]
  exact h p e s m args below meth c0 H locs ls hC hR hS hL (okS_c (show r64 (V a i.toNat) from (okc_j.mp (hR.2.1 a _ i.toNat hq (by show i.toNat < n; omega)))) (okS_t (okS_t hV)))
theorem wp_iast {a n : Nat} {rs : List (Option Nat)} {i x : Int} (hd : decode y.2.1 pc = .ok (.iastore, 1)) (hq : sh[a]? = some (14, n, rs)) (hi : 0 ≤ i ∧ i < n) (h : Wp K d y mc ms (pc + 1) L S cl sl sh (upm V a i.toNat x) Q) : Wp K d y mc ms pc L (vI x :: vI i :: vR a :: S) cl sl sh V Q := by
  intro p e s m args below meth c0 H locs ls hC hR hS hL hV
  have ri : r32 i := okS_h (okS_t hV)
  have hK := hC.2.2.2.2.2.2.2.1
  have he : H[kB K + a]? = some (arrV (kY K 14) n (fun j => .int (Int32.ofInt (V a j)))) := hR.1 a _ (wsO_at hq)
  refine W.iast hC.1 hC.2.1 (x := Int32.ofInt x) he ((hK.2 1 _ rfl).1 n (fun j => .int (Int32.ofInt (V a j)))) (fun q => by cases q) (by rw [arrV_size]; exact i32_in ri hi.1 hi.2) rfl rfl hd fun H1 e1 z oq => ?_
  refine h p e s m args below meth c0 H1 _ ls hC (hR.cell hq ?_ (okc_i2 (by decide) (okS_h hV)) z oq) (hS.put z oq (show kB K ≤ kB K + a by omega)) hL (okS_t (okS_t (okS_t hV)))
  show H1[kB K + a]? = some (arrV (kY K 14) n (fun j => .int (Int32.ofInt (upm V a i.toNat x a j))))
  rw [e1, arrV_store, i32_cl ri]
  congr 2
  funext j
  unfold updV
  by_cases hj : j = i.toNat
  · subst hj
    rw [if_pos rfl, upm_s]
  · rw [if_neg hj, upm_k hj]
theorem wp_last {a n : Nat} {rs : List (Option Nat)} {i x : Int} (hd : decode y.2.1 pc = .ok (.lastore, 1)) (hq : sh[a]? = some (15, n, rs)) (hi : 0 ≤ i ∧ i < n) (h : Wp K d y mc ms (pc + 1) L S cl sl sh (upm V a i.toNat x) Q) : Wp K d y mc ms pc L (vJ x :: vI i :: vR a :: S) cl sl sh V Q := by
  intro p e s m args below meth c0 H locs ls hC hR hS hL hV
  have ri : r32 i := okS_h (okS_t hV)
  have hK := hC.2.2.2.2.2.2.2.1
  have he : H[kB K + a]? = some (arrV (kY K 15) n (fun j => .long (Int64.ofInt (V a j)))) := hR.1 a _ (wsO_at hq)
  refine W.last hC.1 hC.2.1 (x := Int64.ofInt x) he ((hK.2 2 _ rfl).1 n (fun j => .long (Int64.ofInt (V a j)))) (fun q => by cases q) (by rw [arrV_size]; exact i32_in ri hi.1 hi.2) rfl rfl hd fun H1 e1 z oq => ?_
  refine h p e s m args below meth c0 H1 _ ls hC (hR.cell hq ?_ (okc_j.mpr (okS_h hV)) z oq) (hS.put z oq (show kB K ≤ kB K + a by omega)) hL (okS_t (okS_t (okS_t hV)))
  show H1[kB K + a]? = some (arrV (kY K 15) n (fun j => .long (Int64.ofInt (upm V a i.toNat x a j))))
  rw [e1, arrV_store, i32_cl ri]
  congr 2
  funext j
  unfold updV
  by_cases hj : j = i.toNat
  · subst hj
    rw [if_pos rfl, upm_s]
  · rw [if_neg hj, upm_k hj]
theorem nar_c {x : Int} (h : 0 ≤ x ∧ x < 65536) : narrow .char (.int (Int32.ofInt x)) = .int (Int32.ofInt x) := by
  show Value.int _ = Value.int _
  congr 1
  obtain ⟨k, rfl⟩ : ∃ k : Nat, x = (k : Int) := ⟨x.toNat, by omega⟩
  have hk : k < 65536 := by omega
  rw [← Int32.toInt_inj]
  have e : (Int32.ofInt (k : Int)).toUInt32 = UInt32.ofNat k := by
    rw [← UInt32.toNat_inj]
    have h0 : (0 : Int32) ≤ Int32.ofInt (k : Int) := by rw [Int32.le_iff_toInt_le, i32_r ⟨by omega, by omega⟩]; simp
    rw [Int32.toNat_toUInt32_of_le h0, i32_cl ⟨by omega, by omega⟩]
    simp [UInt32.toNat_ofNat]
    omega
  rw [e]
  have e2 : (UInt32.ofNat k).toUInt16.toUInt32 = UInt32.ofNat k := by
    rw [← UInt32.toNat_inj]
    simp [UInt32.toNat_ofNat]
    omega
  rw [e2, ← e]
  rfl
theorem wp_cast {a n : Nat} {rs : List (Option Nat)} {i x : Int} (hd : decode y.2.1 pc = .ok (.castore, 1)) (hq : sh[a]? = some (13, n, rs)) (hi : 0 ≤ i ∧ i < n) (hz : 0 ≤ x ∧ x < 65536) (h : Wp K d y mc ms (pc + 1) L S cl sl sh (upm V a i.toNat x) Q) : Wp K d y mc ms pc L (vI x :: vI i :: vR a :: S) cl sl sh V Q := by
  intro p e s m args below meth c0 H locs ls hC hR hS hL hV
  have ri : r32 i := okS_h (okS_t hV)
  have hK := hC.2.2.2.2.2.2.2.1
  have hnar := nar_c hz
  have he : H[kB K + a]? = some (arrV (kY K 13) n (fun j => .int (Int32.ofInt (V a j)))) := hR.1 a _ (wsO_at hq)
  refine W.cast hC.1 hC.2.1 (x := Int32.ofInt x) he ((hK.2 0 _ rfl).1 n (fun j => .int (Int32.ofInt (V a j)))) (fun q => by cases q) (by rw [arrV_size]; exact i32_in ri hi.1 hi.2) rfl rfl hd fun H1 e1 z oq => ?_
  rw [hnar] at e1
  refine h p e s m args below meth c0 H1 _ ls hC (hR.cell hq ?_ (okc_i2 (by decide) (okS_h hV)) z oq) (hS.put z oq (show kB K ≤ kB K + a by omega)) hL (okS_t (okS_t (okS_t hV)))
  show H1[kB K + a]? = some (arrV (kY K 13) n (fun j => .int (Int32.ofInt (upm V a i.toNat x a j))))
  rw [e1, arrV_store, i32_cl ri]
  congr 2
  funext j
  unfold updV
  by_cases hj : j = i.toNat
  · subst hj
    rw [if_pos rfl, upm_s]
  · rw [if_neg hj, upm_k hj]
theorem wp_zast {a n : Nat} {rs : List (Option Nat)} {i x : Int} (hd : decode y.2.1 pc = .ok (.bastore, 1)) (hq : sh[a]? = some (16, n, rs)) (hi : 0 ≤ i ∧ i < n) (hz : x = 0 ∨ x = 1) (h : Wp K d y mc ms (pc + 1) L S cl sl sh (upm V a i.toNat x) Q) : Wp K d y mc ms pc L (vI x :: vI i :: vR a :: S) cl sl sh V Q := by
  intro p e s m args below meth c0 H locs ls hC hR hS hL hV
  have ri : r32 i := okS_h (okS_t hV)
  have hK := hC.2.2.2.2.2.2.2.1
  have hnar := nar_z hz
  have he : H[kB K + a]? = some (arrV (kY K 16) n (fun j => .int (Int32.ofInt (V a j)))) := hR.1 a _ (wsO_at hq)
  refine W.zast hC.1 hC.2.1 (x := Int32.ofInt x) he ((hK.2 3 _ rfl).1 n (fun j => .int (Int32.ofInt (V a j)))) (fun q => by cases q) (by rw [arrV_size]; exact i32_in ri hi.1 hi.2) rfl rfl hd fun H1 e1 z oq => ?_
  rw [hnar] at e1
  refine h p e s m args below meth c0 H1 _ ls hC (hR.cell hq ?_ (okc_i2 (by decide) (okS_h hV)) z oq) (hS.put z oq (show kB K ≤ kB K + a by omega)) hL (okS_t (okS_t (okS_t hV)))
  show H1[kB K + a]? = some (arrV (kY K 16) n (fun j => .int (Int32.ofInt (upm V a i.toNat x a j))))
  rw [e1, arrV_store, i32_cl ri]
  congr 2
  funext j
  unfold updV
  by_cases hj : j = i.toNat
  · subst hj
    rw [if_pos rfl, upm_s]
  · rw [if_neg hj, upm_k hj]
/-! references in arrays -/
theorem wp_aald {a c n b : Nat} {rs : List (Option Nat)} {i : Int} (hd : decode y.2.1 pc = .ok (.aaload, 1)) (hq : sh[a]? = some (c, n, rs)) (hc : 17 ≤ c ∧ c ≤ 20) (hi : 0 ≤ i ∧ i < n) (hr : rs.getD i.toNat none = some b) (h : Wp K d y mc ms (pc + 1) L (vR b :: S) cl sl sh V Q) : Wp K d y mc ms pc L (vI i :: vR a :: S) cl sl sh V Q := by
  intro p e s m args below meth c0 H locs ls hC hR hS hL hV
  have ri : r32 i := okS_h hV
  have hK := hC.2.2.2.2.2.2.2.1
  have he : H[kB K + a]? = some (arrV (kY K c) n (fun j => va_rf ((rs.getD j none).map (fun a => kB K + a)))) := by
    have h1 := hR.1 a _ (wsO_at hq)
    have hc' : c = 17 ∨ c = 18 ∨ c = 19 ∨ c = 20 := by omega
    rcases hc' with rfl | rfl | rfl | rfl <;> exact h1
  have key : ∃ ty : FieldType, ArrOfT s (kY K c) ty ∧ ty.isReference = true := by
    have hc' : c = 17 ∨ c = 18 ∨ c = 19 ∨ c = 20 := by omega
    rcases hc' with rfl | rfl | rfl | rfl
    · exact ⟨_, (hK.2 4 _ rfl).1, rfl⟩
    · exact ⟨_, (hK.2 5 _ rfl).1, rfl⟩
    · exact ⟨_, (hK.2 6 _ rfl).1, rfl⟩
    · exact ⟨_, (hK.2 7 _ rfl).1, rfl⟩
  obtain ⟨ty, k1, k2⟩ := key
  refine W.aald (v := .ref (kB K + b)) (ty := ty) hC.1 hC.2.1 he (k1 n _) k2 (fun q => by cases q) (by rw [arrV_size]; exact i32_in ri hi.1 hi.2) (by rw [i32_cl ri, arrV_read _ _ (by omega), hr]; rfl) rfl rfl hd ?_
  exact h p e s m args below meth c0 H locs ls hC hR hS hL (okS_c trivial (okS_t (okS_t hV)))
/-! the script -/
theorem wp_sld {i : Int} (hd : decode y.2.1 pc = .ok (.iaload, 1)) (hi : 0 ≤ i ∧ i < kN K) (h : Wp K d y mc ms (pc + 1) L (vI (kX K i.toNat).toInt :: S) cl sl sh V Q) : Wp K d y mc ms pc L (vI i :: vS :: S) cl sl sh V Q := by
  intro p e s m args below meth c0 H locs ls hC hR hS hL hV
  have ri : r32 i := okS_h hV
  have hB := hC.2.2.2.2.2.2.2.2.1
  obtain ⟨hX, hl⟩ := hC.2.2.2.2.2.2.2.2.2.1
  refine va_sld hC.1 hC.2.1 hX (by omega) (show ¬ kB K ≤ kS K by omega) hS (i32_in ri hi.1 hi.2) hd ?_
  rw [i32_cl ri, ← i32_of (kX K i.toNat)]
  exact h p e s m args below meth c0 H locs ls hC hR hS hL (okS_c (show r32 _ from r32_of _) (okS_t (okS_t hV)))
theorem wp_slen (hd : decode y.2.1 pc = .ok (.arraylength, 1)) (hn : kN K < 2147483648) (h : Wp K d y mc ms (pc + 1) L (vI (kN K : Int) :: S) cl sl sh V Q) : Wp K d y mc ms pc L (vS :: S) cl sl sh V Q := by
  intro p e s m args below meth c0 H locs ls hC hR hS hL hV
  have hB := hC.2.2.2.2.2.2.2.2.1
  obtain ⟨hX, hl⟩ := hC.2.2.2.2.2.2.2.2.2.1
  refine va_slen hC.1 hC.2.1 hX (by omega) (show ¬ kB K ≤ kS K by omega) hS hd ?_
  rw [← Int32.ofInt_eq_ofNat]
  exact h p e s m args below meth c0 H locs ls hC hR hS hL (okS_c (show r32 _ from ⟨by omega, by omega⟩) (okS_t hV))
end WPH
