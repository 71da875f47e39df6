/-! ===== rows of the small machine: instructions that touch no heap ===== -/
theorem i8_of {n : Int} (h : -128 ≤ n ∧ n < 128) : (Int8.ofInt n).toInt32 = Int32.ofInt n := by
  rw [← Int32.toInt_inj, Int8.toInt_toInt32, i32_r ⟨by omega, by omega⟩, Int8.toInt_ofInt_of_le (by omega) (by omega)]
theorem i16_of {n : Int} (h : -32768 ≤ n ∧ n < 32768) : (Int16.ofInt n).toInt32 = Int32.ofInt n := by
  rw [← Int32.toInt_inj, Int16.toInt_toInt32, i32_r ⟨by omega, by omega⟩, Int16.toInt_ofInt_of_le (by omega) (by omega)]
theorem okS_c {v : AV} {S : List AV} (h1 : okv v) (h2 : ∀ u ∈ S, okv u) : ∀ u ∈ v :: S, okv u := fun u h => (List.mem_cons.mp h).elim (fun q => q ▸ h1) (h2 u)
theorem okS_t {v : AV} {S : List AV} (h : ∀ u ∈ v :: S, okv u) : ∀ u ∈ S, okv u := fun u q => h u (List.mem_cons_of_mem _ q)
theorem okS_h {v : AV} {S : List AV} (h : ∀ u ∈ v :: S, okv u) : okv v := h v List.mem_cons_self
section WPR
variable {K : KK} {d : Nat} {y : MI} {mc ms pc : Nat} {L : List (Option AV)} {S : List AV} {cl sl : Nat} {sh : List SC} {V : Mem} {Q : Option AV → List SC → Mem → Prop}
theorem wp_iconst {n : Int} (hd : decode y.2.1 pc = .ok (.iconst n, 1)) (hr : -128 ≤ n ∧ n < 128) (h : Wp K d y mc ms (pc + 1) L (vI n :: S) cl sl sh V Q) : Wp K d y mc ms pc L S cl sl sh V Q := by
  intro p e s m args below meth c H locs ls hC hR hS hL hV
  have hx := hC.1
  have hb := hC.2.1
  refine lv_iconst hx hb hd rfl ?_
  exact h p e s m args below meth c H locs ls hC hR hS hL (okS_c (show r32 n from ⟨by omega, by omega⟩) hV)
theorem wp_bipush {n : Int} (hd : decode y.2.1 pc = .ok (.bipush n, 2)) (hr : -128 ≤ n ∧ n < 128) (h : Wp K d y mc ms (pc + 2) L (vI n :: S) cl sl sh V Q) : Wp K d y mc ms pc L S cl sl sh V Q := by
  intro p e s m args below meth c H locs ls hC hR hS hL hV
  have hx := hC.1
  have hb := hC.2.1
  refine lv_bipush hx hb hd (i8_of hr) ?_
  exact h p e s m args below meth c H locs ls hC hR hS hL (okS_c (show r32 n from ⟨by omega, by omega⟩) hV)
theorem wp_sipush {n : Int} (hd : decode y.2.1 pc = .ok (.sipush n, 3)) (hr : -32768 ≤ n ∧ n < 32768) (h : Wp K d y mc ms (pc + 3) L (vI n :: S) cl sl sh V Q) : Wp K d y mc ms pc L S cl sl sh V Q := by
  intro p e s m args below meth c H locs ls hC hR hS hL hV
  have hx := hC.1
  have hb := hC.2.1
  refine lv_sipush hx hb hd (i16_of hr) ?_
  exact h p e s m args below meth c H locs ls hC hR hS hL (okS_c (show r32 n from ⟨by omega, by omega⟩) hV)
theorem wp_lconst {n : Fin 2} {z : Int} (hd : decode y.2.1 pc = .ok (.lconst n, 1)) (hz : ((n : Nat) : Int) = z) (h : Wp K d y mc ms (pc + 1) L (vJ z :: S) cl sl sh V Q) : Wp K d y mc ms pc L S cl sl sh V Q := by
  intro p e s m args below meth c H locs ls hC hR hS hL hV
  have hx := hC.1
  have hb := hC.2.1
  have hn := n.isLt
  refine lv_lconst (v := Int64.ofInt z) hx hb hd (by rw [← hz]; exact Int64.ofInt_eq_ofNat.symm) ?_
  exact h p e s m args below meth c H locs ls hC hR hS hL (okS_c (show r64 z from ⟨by omega, by omega⟩) hV)
theorem wp_ldc {n : Nat} {z : Int} (hd : decode y.2.1 pc = .ok (.ldc n, 2)) (hw : Cond.constant y.1.cls n (Int32.ofInt z) ∈ tb) (hr : -2147483648 ≤ z ∧ z < 2147483648) (h : Wp K d y mc ms (pc + 2) L (vI z :: S) cl sl sh V Q) : Wp K d y mc ms pc L S cl sl sh V Q := by
  intro p e s m args below meth c H locs ls hC hR hS hL hV
  have hx := hC.1
  have hb := hC.2.1
  refine lv_ldc hx hb hC.2.2.2.2.1 (hC.2.2.2.2.2.1 _ hw) hd ?_
  exact h p e s m args below meth c H locs ls hC hR hS hL (okS_c (show r32 z from hr) hV)
theorem wp_ldcw {n : Nat} {z : Int} (hd : decode y.2.1 pc = .ok (.ldc_w n, 3)) (hw : Cond.constant y.1.cls n (Int32.ofInt z) ∈ tb) (hr : -2147483648 ≤ z ∧ z < 2147483648) (h : Wp K d y mc ms (pc + 3) L (vI z :: S) cl sl sh V Q) : Wp K d y mc ms pc L S cl sl sh V Q := by
  intro p e s m args below meth c H locs ls hC hR hS hL hV
  have hx := hC.1
  have hb := hC.2.1
  refine lv_ldcw hx hb hC.2.2.2.2.1 (hC.2.2.2.2.2.1 _ hw) hd ?_
  exact h p e s m args below meth c H locs ls hC hR hS hL (okS_c (show r32 z from hr) hV)
theorem wp_ldc2 {n : Nat} {z : Int} (hd : decode y.2.1 pc = .ok (.ldc2_w n, 3)) (hw : Cond.constantLong y.1.cls n (Int64.ofInt z) ∈ tb) (hr : -9223372036854775808 ≤ z ∧ z < 9223372036854775808) (h : Wp K d y mc ms (pc + 3) L (vJ z :: S) cl sl sh V Q) : Wp K d y mc ms pc L S cl sl sh V Q := by
  intro p e s m args below meth c H locs ls hC hR hS hL hV
  have hx := hC.1
  have hb := hC.2.1
  refine lv_ldc2 hx hb hC.2.2.2.2.1 (hC.2.2.2.2.2.1 _ hw) hd ?_
  exact h p e s m args below meth c H locs ls hC hR hS hL (okS_c (show r64 z from hr) hV)
theorem wp_null  (hd : decode y.2.1 pc = .ok (.aconst_null, 1)) (h : Wp K d y mc ms (pc + 1) L (vN :: S) cl sl sh V Q) : Wp K d y mc ms pc L S cl sl sh V Q := by
  intro p e s m args below meth c H locs ls hC hR hS hL hV
  have hx := hC.1
  have hb := hC.2.1
  refine lv_null hx hb hd ?_
  exact h p e s m args below meth c H locs ls hC hR hS hL (okS_c (show okv vN from trivial) hV)
theorem wp_iload {k : Nat} {x : Int} (hd : decode y.2.1 pc = .ok (.iload k, 2)) (hk : L[k]? = some (some (vI x))) (h : Wp K d y mc ms (pc + 2) L (vI x :: S) cl sl sh V Q) : Wp K d y mc ms pc L S cl sl sh V Q := by
  intro p e s m args below meth c H locs ls hC hR hS hL hV
  have hx := hC.1
  have hb := hC.2.1
  refine lv_iload hx hb hd (hL.2.2 k _ hk).1 ?_
  exact h p e s m args below meth c H locs ls hC hR hS hL (okS_c (hL.2.2 k _ hk).2 hV)
theorem wp_iload_n {n : Fin 4} {k : Nat} {x : Int} (hd : decode y.2.1 pc = .ok (.iload_n n, 1)) (hn : (n : Nat) = k) (hk : L[k]? = some (some (vI x))) (h : Wp K d y mc ms (pc + 1) L (vI x :: S) cl sl sh V Q) : Wp K d y mc ms pc L S cl sl sh V Q := by
  intro p e s m args below meth c H locs ls hC hR hS hL hV
  have hx := hC.1
  have hb := hC.2.1
  refine lv_iload_n hx hb hd hn (hL.2.2 k _ hk).1 ?_
  exact h p e s m args below meth c H locs ls hC hR hS hL (okS_c (hL.2.2 k _ hk).2 hV)
theorem wp_lload {k : Nat} {x : Int} (hd : decode y.2.1 pc = .ok (.lload k, 2)) (hk : L[k]? = some (some (vJ x))) (h : Wp K d y mc ms (pc + 2) L (vJ x :: S) cl sl sh V Q) : Wp K d y mc ms pc L S cl sl sh V Q := by
  intro p e s m args below meth c H locs ls hC hR hS hL hV
  have hx := hC.1
  have hb := hC.2.1
  refine lv_lload hx hb hd (hL.2.2 k _ hk).1 ?_
  exact h p e s m args below meth c H locs ls hC hR hS hL (okS_c (hL.2.2 k _ hk).2 hV)
theorem wp_lload_n {n : Fin 4} {k : Nat} {x : Int} (hd : decode y.2.1 pc = .ok (.lload_n n, 1)) (hn : (n : Nat) = k) (hk : L[k]? = some (some (vJ x))) (h : Wp K d y mc ms (pc + 1) L (vJ x :: S) cl sl sh V Q) : Wp K d y mc ms pc L S cl sl sh V Q := by
  intro p e s m args below meth c H locs ls hC hR hS hL hV
  have hx := hC.1
  have hb := hC.2.1
  refine lv_lload_n hx hb hd hn (hL.2.2 k _ hk).1 ?_
  exact h p e s m args below meth c H locs ls hC hR hS hL (okS_c (hL.2.2 k _ hk).2 hV)
theorem wp_aload {k : Nat} {x : Nat} (hd : decode y.2.1 pc = .ok (.aload k, 2)) (hk : L[k]? = some (some (vR x))) (h : Wp K d y mc ms (pc + 2) L (vR x :: S) cl sl sh V Q) : Wp K d y mc ms pc L S cl sl sh V Q := by
  intro p e s m args below meth c H locs ls hC hR hS hL hV
  have hx := hC.1
  have hb := hC.2.1
  refine lv_aload hx hb hd (hL.2.2 k _ hk).1 ?_
  exact h p e s m args below meth c H locs ls hC hR hS hL (okS_c (hL.2.2 k _ hk).2 hV)
theorem wp_aload_n {n : Fin 4} {k : Nat} {x : Nat} (hd : decode y.2.1 pc = .ok (.aload_n n, 1)) (hn : (n : Nat) = k) (hk : L[k]? = some (some (vR x))) (h : Wp K d y mc ms (pc + 1) L (vR x :: S) cl sl sh V Q) : Wp K d y mc ms pc L S cl sl sh V Q := by
  intro p e s m args below meth c H locs ls hC hR hS hL hV
  have hx := hC.1
  have hb := hC.2.1
  refine lv_aload_n hx hb hd hn (hL.2.2 k _ hk).1 ?_
  exact h p e s m args below meth c H locs ls hC hR hS hL (okS_c (hL.2.2 k _ hk).2 hV)
theorem wp_aloadN {k : Nat} (hd : decode y.2.1 pc = .ok (.aload k, 2)) (hk : L[k]? = some (some vN)) (h : Wp K d y mc ms (pc + 2) L (vN :: S) cl sl sh V Q) : Wp K d y mc ms pc L S cl sl sh V Q := by
  intro p e s m args below meth c H locs ls hC hR hS hL hV
  have hx := hC.1
  have hb := hC.2.1
  refine lv_aloadN hx hb hd (hL.2.2 k _ hk).1 ?_
  exact h p e s m args below meth c H locs ls hC hR hS hL (okS_c (hL.2.2 k _ hk).2 hV)
theorem wp_aload_nN {n : Fin 4} {k : Nat} (hd : decode y.2.1 pc = .ok (.aload_n n, 1)) (hn : (n : Nat) = k) (hk : L[k]? = some (some vN)) (h : Wp K d y mc ms (pc + 1) L (vN :: S) cl sl sh V Q) : Wp K d y mc ms pc L S cl sl sh V Q := by
  intro p e s m args below meth c H locs ls hC hR hS hL hV
  have hx := hC.1
  have hb := hC.2.1
  refine lv_aload_nN hx hb hd hn (hL.2.2 k _ hk).1 ?_
  exact h p e s m args below meth c H locs ls hC hR hS hL (okS_c (hL.2.2 k _ hk).2 hV)
theorem wp_aloadS {k : Nat} (hd : decode y.2.1 pc = .ok (.aload k, 2)) (hk : L[k]? = some (some vS)) (h : Wp K d y mc ms (pc + 2) L (vS :: S) cl sl sh V Q) : Wp K d y mc ms pc L S cl sl sh V Q := by
  intro p e s m args below meth c H locs ls hC hR hS hL hV
  have hx := hC.1
  have hb := hC.2.1
  refine lv_aload hx hb hd (hL.2.2 k _ hk).1 ?_
  exact h p e s m args below meth c H locs ls hC hR hS hL (okS_c (hL.2.2 k _ hk).2 hV)
theorem wp_aload_nS {n : Fin 4} {k : Nat} (hd : decode y.2.1 pc = .ok (.aload_n n, 1)) (hn : (n : Nat) = k) (hk : L[k]? = some (some vS)) (h : Wp K d y mc ms (pc + 1) L (vS :: S) cl sl sh V Q) : Wp K d y mc ms pc L S cl sl sh V Q := by
  intro p e s m args below meth c H locs ls hC hR hS hL hV
  have hx := hC.1
  have hb := hC.2.1
  refine lv_aload_n hx hb hd hn (hL.2.2 k _ hk).1 ?_
  exact h p e s m args below meth c H locs ls hC hR hS hL (okS_c (hL.2.2 k _ hk).2 hV)
theorem wp_istore {k : Nat} {x : Int} (hd : decode y.2.1 pc = .ok (.istore k, 2)) (hk : k < y.2.2.1) (hg : nlg L k = true) (h : Wp K d y mc ms (pc + 2) (L.set k (some (vI x))) S cl sl sh V Q) : Wp K d y mc ms pc L (vI x :: S) cl sl sh V Q := by
  intro p e s m args below meth c H locs ls hC hR hS hL hV
  have hx := hC.1
  have hb := hC.2.1
  refine lv_istore (lv := al K L) hx hb hd hL.has hk rfl (fun ls2 hl2 => ?_)
  exact h p e s m args below meth c H locs ls2 hC hR hS (hL.st1 (okS_h hV) hg hl2) (okS_t hV)
theorem wp_istore_n {n : Fin 4} {k : Nat} {x : Int} (hd : decode y.2.1 pc = .ok (.istore_n n, 1)) (hn : (n : Nat) = k) (hk : k < y.2.2.1) (hg : nlg L k = true) (h : Wp K d y mc ms (pc + 1) (L.set k (some (vI x))) S cl sl sh V Q) : Wp K d y mc ms pc L (vI x :: S) cl sl sh V Q := by
  intro p e s m args below meth c H locs ls hC hR hS hL hV
  have hx := hC.1
  have hb := hC.2.1
  refine lv_istore_n (lv := al K L) hx hb hd hn hL.has hk rfl (fun ls2 hl2 => ?_)
  exact h p e s m args below meth c H locs ls2 hC hR hS (hL.st1 (okS_h hV) hg hl2) (okS_t hV)
theorem wp_astore {k : Nat} {x : Nat} (hd : decode y.2.1 pc = .ok (.astore k, 2)) (hk : k < y.2.2.1) (hg : nlg L k = true) (h : Wp K d y mc ms (pc + 2) (L.set k (some (vR x))) S cl sl sh V Q) : Wp K d y mc ms pc L (vR x :: S) cl sl sh V Q := by
  intro p e s m args below meth c H locs ls hC hR hS hL hV
  have hx := hC.1
  have hb := hC.2.1
  refine lv_astore (lv := al K L) hx hb hd hL.has hk rfl (fun ls2 hl2 => ?_)
  exact h p e s m args below meth c H locs ls2 hC hR hS (hL.st1 (okS_h hV) hg hl2) (okS_t hV)
theorem wp_astore_n {n : Fin 4} {k : Nat} {x : Nat} (hd : decode y.2.1 pc = .ok (.astore_n n, 1)) (hn : (n : Nat) = k) (hk : k < y.2.2.1) (hg : nlg L k = true) (h : Wp K d y mc ms (pc + 1) (L.set k (some (vR x))) S cl sl sh V Q) : Wp K d y mc ms pc L (vR x :: S) cl sl sh V Q := by
  intro p e s m args below meth c H locs ls hC hR hS hL hV
  have hx := hC.1
  have hb := hC.2.1
  refine lv_astore_n (lv := al K L) hx hb hd hn hL.has hk rfl (fun ls2 hl2 => ?_)
  exact h p e s m args below meth c H locs ls2 hC hR hS (hL.st1 (okS_h hV) hg hl2) (okS_t hV)
theorem wp_astoreN {k : Nat}  (hd : decode y.2.1 pc = .ok (.astore k, 2)) (hk : k < y.2.2.1) (hg : nlg L k = true) (h : Wp K d y mc ms (pc + 2) (L.set k (some (vN))) S cl sl sh V Q) : Wp K d y mc ms pc L (vN :: S) cl sl sh V Q := by
  intro p e s m args below meth c H locs ls hC hR hS hL hV
  have hx := hC.1
  have hb := hC.2.1
  refine lv_astoreN (lv := al K L) hx hb hd hL.has hk rfl (fun ls2 hl2 => ?_)
  exact h p e s m args below meth c H locs ls2 hC hR hS (hL.st1 (okS_h hV) hg hl2) (okS_t hV)
theorem wp_astore_nN {n : Fin 4} {k : Nat}  (hd : decode y.2.1 pc = .ok (.astore_n n, 1)) (hn : (n : Nat) = k) (hk : k < y.2.2.1) (hg : nlg L k = true) (h : Wp K d y mc ms (pc + 1) (L.set k (some (vN))) S cl sl sh V Q) : Wp K d y mc ms pc L (vN :: S) cl sl sh V Q := by
  intro p e s m args below meth c H locs ls hC hR hS hL hV
  have hx := hC.1
  have hb := hC.2.1
  refine lv_astore_nN (lv := al K L) hx hb hd hn hL.has hk rfl (fun ls2 hl2 => ?_)
  exact h p e s m args below meth c H locs ls2 hC hR hS (hL.st1 (okS_h hV) hg hl2) (okS_t hV)
theorem wp_lstore {k : Nat} {x : Int} (hd : decode y.2.1 pc = .ok (.lstore k, 2)) (hk : k + 1 < y.2.2.1) (hg : nlg L k = true) (h : Wp K d y mc ms (pc + 2) ((L.set k (some (vJ x))).set (k + 1) none) S cl sl sh V Q) : Wp K d y mc ms pc L (vJ x :: S) cl sl sh V Q := by
  intro p e s m args below meth c H locs ls hC hR hS hL hV
  have hx := hC.1
  have hb := hC.2.1
  refine lv_lstore (lv := al K L) hx hb hd hL.has hk rfl (fun ls2 hl2 => ?_)
  exact h p e s m args below meth c H locs ls2 hC hR hS (hL.st2 (okS_h hV) hg hl2) (okS_t hV)
theorem wp_lstore_n {n : Fin 4} {k : Nat} {x : Int} (hd : decode y.2.1 pc = .ok (.lstore_n n, 1)) (hn : (n : Nat) = k) (hk : k + 1 < y.2.2.1) (hg : nlg L k = true) (h : Wp K d y mc ms (pc + 1) ((L.set k (some (vJ x))).set (k + 1) none) S cl sl sh V Q) : Wp K d y mc ms pc L (vJ x :: S) cl sl sh V Q := by
  intro p e s m args below meth c H locs ls hC hR hS hL hV
  have hx := hC.1
  have hb := hC.2.1
  refine lv_lstore_n (lv := al K L) hx hb hd hn hL.has hk rfl (fun ls2 hl2 => ?_)
  exact h p e s m args below meth c H locs ls2 hC hR hS (hL.st2 (okS_h hV) hg hl2) (okS_t hV)
theorem wp_iinc {k : Nat} {x n : Int} (hd : decode y.2.1 pc = .ok (.iinc k n, 3)) (hk : L[k]? = some (some (vI x))) (hg : nlg L k = true) (h : Wp K d y mc ms (pc + 3) (L.set k (some (vI (w32 (x + n))))) S cl sl sh V Q) : Wp K d y mc ms pc L S cl sl sh V Q := by
  intro p e s m args below meth c H locs ls hC hR hS hL hV
  have hx := hC.1
  have hb := hC.2.1
  obtain ⟨j, hj⟩ := List.getElem?_of_mem (al_mem (K := K) hk)
  refine lv_iinc (lv := al K L) (v := Int32.ofInt (w32 (x + n))) hx hb hd hL.has hj (i32_add x n) (hL.lt hk) rfl (fun ls2 hl2 => ?_)
  exact h p e s m args below meth c H locs ls2 hC hR hS (hL.st1 (v := vI (w32 (x + n))) (show okv (vI _) from w32_r _) hg hl2) hV
theorem wp_iadd {x z : Int} (hd : decode y.2.1 pc = .ok (.iadd, 1)) (h : Wp K d y mc ms (pc + 1) L (vI (w32 (x + z)) :: S) cl sl sh V Q) : Wp K d y mc ms pc L (vI z :: vI x :: S) cl sl sh V Q := by
  intro p e s m args below meth c H locs ls hC hR hS hL hV
  have hx := hC.1
  have hb := hC.2.1
  refine lv_iadd hx hb hd ?_
  rw [i32_add]
  exact h p e s m args below meth c H locs ls hC hR hS hL (okS_c (show okv (vI _) from w32_r _) (okS_t (okS_t hV)))
theorem wp_isub {x z : Int} (hd : decode y.2.1 pc = .ok (.isub, 1)) (h : Wp K d y mc ms (pc + 1) L (vI (w32 (x - z)) :: S) cl sl sh V Q) : Wp K d y mc ms pc L (vI z :: vI x :: S) cl sl sh V Q := by
  intro p e s m args below meth c H locs ls hC hR hS hL hV
  have hx := hC.1
  have hb := hC.2.1
  refine lv_isub hx hb hd ?_
  rw [i32_sub]
  exact h p e s m args below meth c H locs ls hC hR hS hL (okS_c (show okv (vI _) from w32_r _) (okS_t (okS_t hV)))
theorem wp_imul {x z : Int} (hd : decode y.2.1 pc = .ok (.imul, 1)) (h : Wp K d y mc ms (pc + 1) L (vI (w32 (x * z)) :: S) cl sl sh V Q) : Wp K d y mc ms pc L (vI z :: vI x :: S) cl sl sh V Q := by
  intro p e s m args below meth c H locs ls hC hR hS hL hV
  have hx := hC.1
  have hb := hC.2.1
  refine lv_imul hx hb hd ?_
  rw [i32_mul]
  exact h p e s m args below meth c H locs ls hC hR hS hL (okS_c (show okv (vI _) from w32_r _) (okS_t (okS_t hV)))
theorem wp_ineg {x : Int} (hd : decode y.2.1 pc = .ok (.ineg, 1)) (h : Wp K d y mc ms (pc + 1) L (vI (w32 (- x)) :: S) cl sl sh V Q) : Wp K d y mc ms pc L (vI x :: S) cl sl sh V Q := by
  intro p e s m args below meth c H locs ls hC hR hS hL hV
  have hx := hC.1
  have hb := hC.2.1
  refine lv_ineg hx hb hd ?_
  rw [i32_neg]
  exact h p e s m args below meth c H locs ls hC hR hS hL (okS_c (show okv (vI _) from w32_r _) (okS_t hV))
theorem wp_ladd {x z : Int} (hd : decode y.2.1 pc = .ok (.ladd, 1)) (h : Wp K d y mc ms (pc + 1) L (vJ (w64 (x + z)) :: S) cl sl sh V Q) : Wp K d y mc ms pc L (vJ z :: vJ x :: S) cl sl sh V Q := by
  intro p e s m args below meth c H locs ls hC hR hS hL hV
  have hx := hC.1
  have hb := hC.2.1
  refine lv_ladd hx hb hd ?_
  rw [i64_add]
  exact h p e s m args below meth c H locs ls hC hR hS hL (okS_c (show okv (vJ _) from w64_r _) (okS_t (okS_t hV)))
theorem wp_lsub {x z : Int} (hd : decode y.2.1 pc = .ok (.lsub, 1)) (h : Wp K d y mc ms (pc + 1) L (vJ (w64 (x - z)) :: S) cl sl sh V Q) : Wp K d y mc ms pc L (vJ z :: vJ x :: S) cl sl sh V Q := by
  intro p e s m args below meth c H locs ls hC hR hS hL hV
  have hx := hC.1
  have hb := hC.2.1
  refine lv_lsub hx hb hd ?_
  rw [i64_sub]
  exact h p e s m args below meth c H locs ls hC hR hS hL (okS_c (show okv (vJ _) from w64_r _) (okS_t (okS_t hV)))
theorem wp_lmul {x z : Int} (hd : decode y.2.1 pc = .ok (.lmul, 1)) (h : Wp K d y mc ms (pc + 1) L (vJ (w64 (x * z)) :: S) cl sl sh V Q) : Wp K d y mc ms pc L (vJ z :: vJ x :: S) cl sl sh V Q := by
  intro p e s m args below meth c H locs ls hC hR hS hL hV
  have hx := hC.1
  have hb := hC.2.1
  refine lv_lmul hx hb hd ?_
  rw [i64_mul]
  exact h p e s m args below meth c H locs ls hC hR hS hL (okS_c (show okv (vJ _) from w64_r _) (okS_t (okS_t hV)))

def b_iand (x z : Int) : Int := (Int32.ofInt x &&& Int32.ofInt z).toInt
theorem wp_iand {x z : Int} (hd : decode y.2.1 pc = .ok (.iand, 1)) (h : Wp K d y mc ms (pc + 1) L (vI (b_iand x z) :: S) cl sl sh V Q) : Wp K d y mc ms pc L (vI z :: vI x :: S) cl sl sh V Q := by
  intro p e s m args below meth c H locs ls hC hR hS hL hV
  have hx := hC.1
  have hb := hC.2.1
  refine lv_iand hx hb hd ?_
  rw [← i32_of (Int32.ofInt x &&& Int32.ofInt z)]
  exact h p e s m args below meth c H locs ls hC hR hS hL (okS_c (show okv (vI (b_iand x z)) from r32_of _) (okS_t (okS_t hV)))
def b_ior (x z : Int) : Int := (Int32.ofInt x ||| Int32.ofInt z).toInt
theorem wp_ior {x z : Int} (hd : decode y.2.1 pc = .ok (.ior, 1)) (h : Wp K d y mc ms (pc + 1) L (vI (b_ior x z) :: S) cl sl sh V Q) : Wp K d y mc ms pc L (vI z :: vI x :: S) cl sl sh V Q := by
  intro p e s m args below meth c H locs ls hC hR hS hL hV
  have hx := hC.1
  have hb := hC.2.1
  refine lv_ior hx hb hd ?_
  rw [← i32_of (Int32.ofInt x ||| Int32.ofInt z)]
  exact h p e s m args below meth c H locs ls hC hR hS hL (okS_c (show okv (vI (b_ior x z)) from r32_of _) (okS_t (okS_t hV)))
def b_ixor (x z : Int) : Int := (Int32.ofInt x ^^^ Int32.ofInt z).toInt
theorem wp_ixor {x z : Int} (hd : decode y.2.1 pc = .ok (.ixor, 1)) (h : Wp K d y mc ms (pc + 1) L (vI (b_ixor x z) :: S) cl sl sh V Q) : Wp K d y mc ms pc L (vI z :: vI x :: S) cl sl sh V Q := by
  intro p e s m args below meth c H locs ls hC hR hS hL hV
  have hx := hC.1
  have hb := hC.2.1
  refine lv_ixor hx hb hd ?_
  rw [← i32_of (Int32.ofInt x ^^^ Int32.ofInt z)]
  exact h p e s m args below meth c H locs ls hC hR hS hL (okS_c (show okv (vI (b_ixor x z)) from r32_of _) (okS_t (okS_t hV)))
def b_ishl (x z : Int) : Int := (Int32.ofInt x <<< (Int32.ofInt z &&& 31)).toInt
theorem wp_ishl {x z : Int} (hd : decode y.2.1 pc = .ok (.ishl, 1)) (h : Wp K d y mc ms (pc + 1) L (vI (b_ishl x z) :: S) cl sl sh V Q) : Wp K d y mc ms pc L (vI z :: vI x :: S) cl sl sh V Q := by
  intro p e s m args below meth c H locs ls hC hR hS hL hV
  have hx := hC.1
  have hb := hC.2.1
  refine lv_ishl hx hb hd ?_
  rw [← i32_of (Int32.ofInt x <<< (Int32.ofInt z &&& 31))]
  exact h p e s m args below meth c H locs ls hC hR hS hL (okS_c (show okv (vI (b_ishl x z)) from r32_of _) (okS_t (okS_t hV)))
def b_ishr (x z : Int) : Int := (Int32.ofInt x >>> (Int32.ofInt z &&& 31)).toInt
theorem wp_ishr {x z : Int} (hd : decode y.2.1 pc = .ok (.ishr, 1)) (h : Wp K d y mc ms (pc + 1) L (vI (b_ishr x z) :: S) cl sl sh V Q) : Wp K d y mc ms pc L (vI z :: vI x :: S) cl sl sh V Q := by
  intro p e s m args below meth c H locs ls hC hR hS hL hV
  have hx := hC.1
  have hb := hC.2.1
  refine lv_ishr hx hb hd ?_
  rw [← i32_of (Int32.ofInt x >>> (Int32.ofInt z &&& 31))]
  exact h p e s m args below meth c H locs ls hC hR hS hL (okS_c (show okv (vI (b_ishr x z)) from r32_of _) (okS_t (okS_t hV)))
def b_land (x z : Int) : Int := (Int64.ofInt x &&& Int64.ofInt z).toInt
theorem wp_land {x z : Int} (hd : decode y.2.1 pc = .ok (.land, 1)) (h : Wp K d y mc ms (pc + 1) L (vJ (b_land x z) :: S) cl sl sh V Q) : Wp K d y mc ms pc L (vJ z :: vJ x :: S) cl sl sh V Q := by
  intro p e s m args below meth c H locs ls hC hR hS hL hV
  have hx := hC.1
  have hb := hC.2.1
  refine lv_land hx hb hd ?_
  rw [← i64_of (Int64.ofInt x &&& Int64.ofInt z)]
  exact h p e s m args below meth c H locs ls hC hR hS hL (okS_c (show okv (vJ (b_land x z)) from r64_of _) (okS_t (okS_t hV)))
def b_lor (x z : Int) : Int := (Int64.ofInt x ||| Int64.ofInt z).toInt
theorem wp_lor {x z : Int} (hd : decode y.2.1 pc = .ok (.lor, 1)) (h : Wp K d y mc ms (pc + 1) L (vJ (b_lor x z) :: S) cl sl sh V Q) : Wp K d y mc ms pc L (vJ z :: vJ x :: S) cl sl sh V Q := by
  intro p e s m args below meth c H locs ls hC hR hS hL hV
  have hx := hC.1
  have hb := hC.2.1
  refine lv_lor hx hb hd ?_
  rw [← i64_of (Int64.ofInt x ||| Int64.ofInt z)]
  exact h p e s m args below meth c H locs ls hC hR hS hL (okS_c (show okv (vJ (b_lor x z)) from r64_of _) (okS_t (okS_t hV)))
def b_lshl (x z : Int) : Int := (Int64.ofInt x <<< ((Int32.ofInt z).toInt64 &&& 63)).toInt
theorem wp_lshl {x z : Int} (hd : decode y.2.1 pc = .ok (.lshl, 1)) (h : Wp K d y mc ms (pc + 1) L (vJ (b_lshl x z) :: S) cl sl sh V Q) : Wp K d y mc ms pc L (vI z :: vJ x :: S) cl sl sh V Q := by
  intro p e s m args below meth c H locs ls hC hR hS hL hV
  have hx := hC.1
  have hb := hC.2.1
  refine lv_lshl hx hb hd (i64_of (Int64.ofInt x <<< ((Int32.ofInt z).toInt64 &&& 63))).symm ?_
  exact h p e s m args below meth c H locs ls hC hR hS hL (okS_c (show okv (vJ (b_lshl x z)) from r64_of _) (okS_t (okS_t hV)))
def b_lshr (x z : Int) : Int := (Int64.ofInt x >>> ((Int32.ofInt z).toInt64 &&& 63)).toInt
theorem wp_lshr {x z : Int} (hd : decode y.2.1 pc = .ok (.lshr, 1)) (h : Wp K d y mc ms (pc + 1) L (vJ (b_lshr x z) :: S) cl sl sh V Q) : Wp K d y mc ms pc L (vI z :: vJ x :: S) cl sl sh V Q := by
  intro p e s m args below meth c H locs ls hC hR hS hL hV
  have hx := hC.1
  have hb := hC.2.1
  refine lv_lshr hx hb hd (i64_of (Int64.ofInt x >>> ((Int32.ofInt z).toInt64 &&& 63))).symm ?_
  exact h p e s m args below meth c H locs ls hC hR hS hL (okS_c (show okv (vJ (b_lshr x z)) from r64_of _) (okS_t (okS_t hV)))
def b_lushr (x z : Int) : Int := (((Int64.ofInt x).toUInt64 >>> ((Int32.ofInt z).toInt64.toUInt64 &&& Int64.toUInt64 63)).toInt64).toInt
theorem wp_lushr {x z : Int} (hd : decode y.2.1 pc = .ok (.lushr, 1)) (h : Wp K d y mc ms (pc + 1) L (vJ (b_lushr x z) :: S) cl sl sh V Q) : Wp K d y mc ms pc L (vI z :: vJ x :: S) cl sl sh V Q := by
  intro p e s m args below meth c H locs ls hC hR hS hL hV
  have hx := hC.1
  have hb := hC.2.1
  refine lv_lushr hx hb hd (i64_of (((Int64.ofInt x).toUInt64 >>> ((Int32.ofInt z).toInt64.toUInt64 &&& Int64.toUInt64 63)).toInt64)).symm ?_
  exact h p e s m args below meth c H locs ls hC hR hS hL (okS_c (show okv (vJ (b_lushr x z)) from r64_of _) (okS_t (okS_t hV)))
theorem wp_idiv {x z : Int} (hd : decode y.2.1 pc = .ok (.idiv, 1)) (hz : z ≠ 0) (h : Wp K d y mc ms (pc + 1) L (vI (w32 (x.tdiv z)) :: S) cl sl sh V Q) : Wp K d y mc ms pc L (vI z :: vI x :: S) cl sl sh V Q := by
  intro p e s m args below meth c H locs ls hC hR hS hL hV
  have hx := hC.1
  have hb := hC.2.1
  have rz : r32 z := okS_h hV
  have rx : r32 x := okS_h (okS_t hV)
  refine lv_idiv hx hb hd (fun q => hz (by rw [i32_0, i32_eq rz r32_0] at q; exact q)) ?_
  rw [show Int32.ofInt x / Int32.ofInt z = Int32.ofInt (w32 (x.tdiv z)) from by rw [← Int32.toInt_inj, Int32.toInt_div, i32_r rx, i32_r rz, i32_r (w32_r _)]; exact w32_bmod _]
  exact h p e s m args below meth c H locs ls hC hR hS hL (okS_c (show okv (vI _) from w32_r _) (okS_t (okS_t hV)))
theorem wp_irem {x z : Int} (hd : decode y.2.1 pc = .ok (.irem, 1)) (hz : z ≠ 0) (h : Wp K d y mc ms (pc + 1) L (vI (w32 (x - w32 (w32 (x.tdiv z) * z))) :: S) cl sl sh V Q) : Wp K d y mc ms pc L (vI z :: vI x :: S) cl sl sh V Q := by
  intro p e s m args below meth c H locs ls hC hR hS hL hV
  have hx := hC.1
  have hb := hC.2.1
  have rz : r32 z := okS_h hV
  have rx : r32 x := okS_h (okS_t hV)
  refine lv_irem hx hb hd (fun q => hz (by rw [i32_0, i32_eq rz r32_0] at q; exact q)) ?_
  rw [show Int32.ofInt x / Int32.ofInt z = Int32.ofInt (w32 (x.tdiv z)) from by rw [← Int32.toInt_inj, Int32.toInt_div, i32_r rx, i32_r rz, i32_r (w32_r _)]; exact w32_bmod _, i32_mul, i32_sub]
  exact h p e s m args below meth c H locs ls hC hR hS hL (okS_c (show okv (vI _) from w32_r _) (okS_t (okS_t hV)))
theorem i64_0 : (0 : Int64) = Int64.ofInt 0 := by decide
theorem r64_0 : r64 0 := by unfold r64; omega
theorem wp_ldiv {x z : Int} (hd : decode y.2.1 pc = .ok (.ldiv, 1)) (hz : z ≠ 0) (h : Wp K d y mc ms (pc + 1) L (vJ (w64 (x.tdiv z)) :: S) cl sl sh V Q) : Wp K d y mc ms pc L (vJ z :: vJ x :: S) cl sl sh V Q := by
  intro p e s m args below meth c H locs ls hC hR hS hL hV
  have hx := hC.1
  have hb := hC.2.1
  have rz : r64 z := okS_h hV
  have rx : r64 x := okS_h (okS_t hV)
  refine lv_ldiv hx hb hd (fun q => hz (by rw [i64_0, i64_eq rz r64_0] at q; exact q)) ?_
  rw [show Int64.ofInt x / Int64.ofInt z = Int64.ofInt (w64 (x.tdiv z)) from by rw [← Int64.toInt_inj, Int64.toInt_div, i64_r rx, i64_r rz, i64_r (w64_r _)]; exact w64_bmod _]
  exact h p e s m args below meth c H locs ls hC hR hS hL (okS_c (show okv (vJ _) from w64_r _) (okS_t (okS_t hV)))
theorem wp_lrem {x z : Int} (hd : decode y.2.1 pc = .ok (.lrem, 1)) (hz : z ≠ 0) (h : Wp K d y mc ms (pc + 1) L (vJ (w64 (x - w64 (w64 (x.tdiv z) * z))) :: S) cl sl sh V Q) : Wp K d y mc ms pc L (vJ z :: vJ x :: S) cl sl sh V Q := by
  intro p e s m args below meth c H locs ls hC hR hS hL hV
  have hx := hC.1
  have hb := hC.2.1
  have rz : r64 z := okS_h hV
  have rx : r64 x := okS_h (okS_t hV)
  refine lv_lrem hx hb hd (fun q => hz (by rw [i64_0, i64_eq rz r64_0] at q; exact q)) ?_
  rw [show Int64.ofInt x / Int64.ofInt z = Int64.ofInt (w64 (x.tdiv z)) from by rw [← Int64.toInt_inj, Int64.toInt_div, i64_r rx, i64_r rz, i64_r (w64_r _)]; exact w64_bmod _, i64_mul, i64_sub]
  exact h p e s m args below meth c H locs ls hC hR hS hL (okS_c (show okv (vJ _) from w64_r _) (okS_t (okS_t hV)))
theorem wp_i2l {x : Int} (hd : decode y.2.1 pc = .ok (.i2l, 1)) (h : Wp K d y mc ms (pc + 1) L (vJ x :: S) cl sl sh V Q) : Wp K d y mc ms pc L (vI x :: S) cl sl sh V Q := by
  intro p e s m args below meth c H locs ls hC hR hS hL hV
  have hx := hC.1
  have hb := hC.2.1
  have rx : r32 x := okS_h hV
  have rx2 : r64 x := ⟨by have := rx.1; omega, by have := rx.2; omega⟩
  refine lv_i2l (v := Int64.ofInt x) hx hb hd (by rw [← Int64.toInt_inj, Int32.toInt_toInt64, i32_r rx, i64_r rx2]) ?_
  exact h p e s m args below meth c H locs ls hC hR hS hL (okS_c (show okv (vJ x) from rx2) (okS_t hV))
theorem wp_l2i {x : Int} (hd : decode y.2.1 pc = .ok (.l2i, 1)) (h : Wp K d y mc ms (pc + 1) L (vI (w32 x) :: S) cl sl sh V Q) : Wp K d y mc ms pc L (vJ x :: S) cl sl sh V Q := by
  intro p e s m args below meth c H locs ls hC hR hS hL hV
  have hx := hC.1
  have hb := hC.2.1
  have rx : r64 x := okS_h hV
  refine lv_l2i (v := Int32.ofInt (w32 x)) hx hb hd (by rw [← Int32.toInt_inj, Int64.toInt_toInt32, i64_r rx, i32_r (w32_r _)]; exact w32_bmod _) ?_
  exact h p e s m args below meth c H locs ls hC hR hS hL (okS_c (show okv (vI _) from w32_r _) (okS_t hV))
def b_i2c (x : Int) : Int := (((Int32.ofInt x).toUInt32 % 65536).toInt32).toInt
theorem wp_i2c {x : Int} (hd : decode y.2.1 pc = .ok (.i2c, 1)) (h : Wp K d y mc ms (pc + 1) L (vI (b_i2c x) :: S) cl sl sh V Q) : Wp K d y mc ms pc L (vI x :: S) cl sl sh V Q := by
  intro p e s m args below meth c H locs ls hC hR hS hL hV
  have hx := hC.1
  have hb := hC.2.1
  refine lv_i2c hx hb hd (i32_of _).symm ?_
  exact h p e s m args below meth c H locs ls hC hR hS hL (okS_c (show okv (vI (b_i2c x)) from r32_of _) (okS_t hV))
def b_lcmp (x z : Int) : Int := if x > z then 1 else if x = z then 0 else -1
theorem b_lcmp_r (x z : Int) : r32 (b_lcmp x z) := by
  unfold b_lcmp r32
  split
  · omega
  · split <;> omega
theorem wp_lcmp {x z : Int} (hd : decode y.2.1 pc = .ok (.lcmp, 1)) (h : Wp K d y mc ms (pc + 1) L (vI (b_lcmp x z) :: S) cl sl sh V Q) : Wp K d y mc ms pc L (vJ z :: vJ x :: S) cl sl sh V Q := by
  intro p e s m args below meth c H locs ls hC hR hS hL hV
  have hx := hC.1
  have hb := hC.2.1
  have rz : r64 z := okS_h hV
  have rx : r64 x := okS_h (okS_t hV)
  refine W.lcmp hx hb hd ?_
  rw [show lg_cmp (Int64.ofInt x) (Int64.ofInt z) = Int32.ofInt (b_lcmp x z) from by
    unfold lg_cmp b_lcmp
    by_cases h1 : x > z
    · rw [if_pos h1, if_pos ((i64_lt rz rx).mpr h1)]; rfl
    · rw [if_neg h1, if_neg (fun q => h1 ((i64_lt rz rx).mp q))]
      by_cases h2 : x = z
      · rw [if_pos h2, if_pos ((i64_eq rx rz).mpr h2)]; rfl
      · rw [if_neg h2, if_neg (fun q => h2 ((i64_eq rx rz).mp q))]; rfl]
  exact h p e s m args below meth c H locs ls hC hR hS hL (okS_c (show okv (vI (b_lcmp x z)) from b_lcmp_r x z) (okS_t (okS_t hV)))
def c1 (v : AV) : Bool := match v with
  | .inr (.inl _) => false
  | _ => true
theorem c1_cat {v : AV} (h : c1 v = true) : (cv K v).category = 1 := by
  rcases v with x | x | (_ | a) | u <;> simp [c1, cv, Value.category] at h ⊢
theorem c2_cat {v : AV} (h : c1 v = false) : (cv K v).category = 2 := by
  rcases v with x | x | (_ | a) | u <;> simp [c1, cv, Value.category] at h ⊢
theorem wp_dup {v : AV} (hd : decode y.2.1 pc = .ok (.dup, 1)) (hv : c1 v = true) (h : Wp K d y mc ms (pc + 1) L (v :: v :: S) cl sl sh V Q) : Wp K d y mc ms pc L (v :: S) cl sl sh V Q := by
  intro p e s m args below meth c H locs ls hC hR hS hL hV
  have hx := hC.1
  have hb := hC.2.1
  refine lv_dup hx hb hd (c1_cat hv) ?_
  exact h p e s m args below meth c H locs ls hC hR hS hL (okS_c (okS_h hV) hV)
theorem wp_pop {v : AV} (hd : decode y.2.1 pc = .ok (.pop, 1)) (hv : c1 v = true) (h : Wp K d y mc ms (pc + 1) L S cl sl sh V Q) : Wp K d y mc ms pc L (v :: S) cl sl sh V Q := by
  intro p e s m args below meth c H locs ls hC hR hS hL hV
  have hx := hC.1
  have hb := hC.2.1
  refine lv_pop hx hb hd (c1_cat hv) ?_
  exact h p e s m args below meth c H locs ls hC hR hS hL (okS_t hV)
theorem wp_dup2 {v u : AV} (hd : decode y.2.1 pc = .ok (.dup2, 1)) (hv : c1 v = true) (hu : c1 u = true) (h : Wp K d y mc ms (pc + 1) L (v :: u :: v :: u :: S) cl sl sh V Q) : Wp K d y mc ms pc L (v :: u :: S) cl sl sh V Q := by
  intro p e s m args below meth c H locs ls hC hR hS hL hV
  have hx := hC.1
  have hb := hC.2.1
  refine lv_dup2_11 hx hb hd (c1_cat hv) (c1_cat hu) ?_
  exact h p e s m args below meth c H locs ls hC hR hS hL (okS_c (okS_h hV) (okS_c (okS_h (okS_t hV)) hV))
theorem wp_icmp_eq {x z off : Int} {tgt : Nat} (hd : decode y.2.1 pc = .ok (.if_icmp .eq off, 3)) (ht : (pc : Int) + off = (tgt : Int)) (h1 : x = z → Wp K d y mc ms tgt L S cl sl sh V Q) (h2 : ¬ (x = z) → Wp K d y mc ms (pc + 3) L S cl sl sh V Q) : Wp K d y mc ms pc L (vI z :: vI x :: S) cl sl sh V Q := by
  intro p e s m args below meth c H locs ls hC hR hS hL hV
  have hx := hC.1
  have hb := hC.2.1
  have rz : r32 z := okS_h hV
  have rx : r32 x := okS_h (okS_t hV)
  refine lv_icmp_eq hx hb hd ht (fun q => ?_) (fun q => ?_)
  · exact h1 ((i32_eq rx rz).mp q) p e s m args below meth c H locs ls hC hR hS hL (okS_t (okS_t hV))
  · exact h2 (fun r => q ((i32_eq rx rz).mpr r)) p e s m args below meth c H locs ls hC hR hS hL (okS_t (okS_t hV))
theorem wp_if_eq {x off : Int} {tgt : Nat} (hd : decode y.2.1 pc = .ok (.ifCond .eq off, 3)) (ht : (pc : Int) + off = (tgt : Int)) (h1 : x = 0 → Wp K d y mc ms tgt L S cl sl sh V Q) (h2 : ¬ (x = 0) → Wp K d y mc ms (pc + 3) L S cl sl sh V Q) : Wp K d y mc ms pc L (vI x :: S) cl sl sh V Q := by
  intro p e s m args below meth c H locs ls hC hR hS hL hV
  have hx := hC.1
  have hb := hC.2.1
  have rx : r32 x := okS_h hV
  have rz : r32 0 := r32_0
  refine lv_if_eq hx hb hd ht (fun q => ?_) (fun q => ?_)
  · rw [i32_0] at q
    exact h1 ((i32_eq rx rz).mp q) p e s m args below meth c H locs ls hC hR hS hL (okS_t hV)
  · rw [i32_0] at q
    exact h2 (fun r => q ((i32_eq rx rz).mpr r)) p e s m args below meth c H locs ls hC hR hS hL (okS_t hV)
theorem wp_icmp_ne {x z off : Int} {tgt : Nat} (hd : decode y.2.1 pc = .ok (.if_icmp .ne off, 3)) (ht : (pc : Int) + off = (tgt : Int)) (h1 : ¬ x = z → Wp K d y mc ms tgt L S cl sl sh V Q) (h2 : x = z → Wp K d y mc ms (pc + 3) L S cl sl sh V Q) : Wp K d y mc ms pc L (vI z :: vI x :: S) cl sl sh V Q := by
  intro p e s m args below meth c H locs ls hC hR hS hL hV
  have hx := hC.1
  have hb := hC.2.1
  have rz : r32 z := okS_h hV
  have rx : r32 x := okS_h (okS_t hV)
  refine lv_icmp_ne hx hb hd ht (fun q => ?_) (fun q => ?_)
  · exact h1 ((not_congr (i32_eq rx rz)).mp q) p e s m args below meth c H locs ls hC hR hS hL (okS_t (okS_t hV))
  · exact h2 ((i32_eq rx rz).mp q) p e s m args below meth c H locs ls hC hR hS hL (okS_t (okS_t hV))
theorem wp_if_ne {x off : Int} {tgt : Nat} (hd : decode y.2.1 pc = .ok (.ifCond .ne off, 3)) (ht : (pc : Int) + off = (tgt : Int)) (h1 : ¬ x = 0 → Wp K d y mc ms tgt L S cl sl sh V Q) (h2 : x = 0 → Wp K d y mc ms (pc + 3) L S cl sl sh V Q) : Wp K d y mc ms pc L (vI x :: S) cl sl sh V Q := by
  intro p e s m args below meth c H locs ls hC hR hS hL hV
  have hx := hC.1
  have hb := hC.2.1
  have rx : r32 x := okS_h hV
  have rz : r32 0 := r32_0
  refine lv_if_ne hx hb hd ht (fun q => ?_) (fun q => ?_)
  · rw [i32_0] at q
    exact h1 ((not_congr (i32_eq rx rz)).mp q) p e s m args below meth c H locs ls hC hR hS hL (okS_t hV)
  · rw [i32_0] at q
    exact h2 ((i32_eq rx rz).mp q) p e s m args below meth c H locs ls hC hR hS hL (okS_t hV)
theorem wp_icmp_lt {x z off : Int} {tgt : Nat} (hd : decode y.2.1 pc = .ok (.if_icmp .lt off, 3)) (ht : (pc : Int) + off = (tgt : Int)) (h1 : x < z → Wp K d y mc ms tgt L S cl sl sh V Q) (h2 : ¬ (x < z) → Wp K d y mc ms (pc + 3) L S cl sl sh V Q) : Wp K d y mc ms pc L (vI z :: vI x :: S) cl sl sh V Q := by
  intro p e s m args below meth c H locs ls hC hR hS hL hV
  have hx := hC.1
  have hb := hC.2.1
  have rz : r32 z := okS_h hV
  have rx : r32 x := okS_h (okS_t hV)
  refine lv_icmp_lt hx hb hd ht (fun q => ?_) (fun q => ?_)
  · exact h1 ((i32_lt rx rz).mp q) p e s m args below meth c H locs ls hC hR hS hL (okS_t (okS_t hV))
  · exact h2 (fun r => q ((i32_lt rx rz).mpr r)) p e s m args below meth c H locs ls hC hR hS hL (okS_t (okS_t hV))
theorem wp_if_lt {x off : Int} {tgt : Nat} (hd : decode y.2.1 pc = .ok (.ifCond .lt off, 3)) (ht : (pc : Int) + off = (tgt : Int)) (h1 : x < 0 → Wp K d y mc ms tgt L S cl sl sh V Q) (h2 : ¬ (x < 0) → Wp K d y mc ms (pc + 3) L S cl sl sh V Q) : Wp K d y mc ms pc L (vI x :: S) cl sl sh V Q := by
  intro p e s m args below meth c H locs ls hC hR hS hL hV
  have hx := hC.1
  have hb := hC.2.1
  have rx : r32 x := okS_h hV
  have rz : r32 0 := r32_0
  refine lv_if_lt hx hb hd ht (fun q => ?_) (fun q => ?_)
  · rw [i32_0] at q
    exact h1 ((i32_lt rx rz).mp q) p e s m args below meth c H locs ls hC hR hS hL (okS_t hV)
  · rw [i32_0] at q
    exact h2 (fun r => q ((i32_lt rx rz).mpr r)) p e s m args below meth c H locs ls hC hR hS hL (okS_t hV)
theorem wp_icmp_ge {x z off : Int} {tgt : Nat} (hd : decode y.2.1 pc = .ok (.if_icmp .ge off, 3)) (ht : (pc : Int) + off = (tgt : Int)) (h1 : z ≤ x → Wp K d y mc ms tgt L S cl sl sh V Q) (h2 : ¬ (z ≤ x) → Wp K d y mc ms (pc + 3) L S cl sl sh V Q) : Wp K d y mc ms pc L (vI z :: vI x :: S) cl sl sh V Q := by
  intro p e s m args below meth c H locs ls hC hR hS hL hV
  have hx := hC.1
  have hb := hC.2.1
  have rz : r32 z := okS_h hV
  have rx : r32 x := okS_h (okS_t hV)
  refine lv_icmp_ge hx hb hd ht (fun q => ?_) (fun q => ?_)
  · exact h1 ((i32_le rz rx).mp q) p e s m args below meth c H locs ls hC hR hS hL (okS_t (okS_t hV))
  · exact h2 (fun r => q ((i32_le rz rx).mpr r)) p e s m args below meth c H locs ls hC hR hS hL (okS_t (okS_t hV))
theorem wp_if_ge {x off : Int} {tgt : Nat} (hd : decode y.2.1 pc = .ok (.ifCond .ge off, 3)) (ht : (pc : Int) + off = (tgt : Int)) (h1 : 0 ≤ x → Wp K d y mc ms tgt L S cl sl sh V Q) (h2 : ¬ (0 ≤ x) → Wp K d y mc ms (pc + 3) L S cl sl sh V Q) : Wp K d y mc ms pc L (vI x :: S) cl sl sh V Q := by
  intro p e s m args below meth c H locs ls hC hR hS hL hV
  have hx := hC.1
  have hb := hC.2.1
  have rx : r32 x := okS_h hV
  have rz : r32 0 := r32_0
  refine lv_if_ge hx hb hd ht (fun q => ?_) (fun q => ?_)
  · rw [i32_0] at q
    exact h1 ((i32_le rz rx).mp q) p e s m args below meth c H locs ls hC hR hS hL (okS_t hV)
  · rw [i32_0] at q
    exact h2 (fun r => q ((i32_le rz rx).mpr r)) p e s m args below meth c H locs ls hC hR hS hL (okS_t hV)
theorem wp_icmp_gt {x z off : Int} {tgt : Nat} (hd : decode y.2.1 pc = .ok (.if_icmp .gt off, 3)) (ht : (pc : Int) + off = (tgt : Int)) (h1 : z < x → Wp K d y mc ms tgt L S cl sl sh V Q) (h2 : ¬ (z < x) → Wp K d y mc ms (pc + 3) L S cl sl sh V Q) : Wp K d y mc ms pc L (vI z :: vI x :: S) cl sl sh V Q := by
  intro p e s m args below meth c H locs ls hC hR hS hL hV
  have hx := hC.1
  have hb := hC.2.1
  have rz : r32 z := okS_h hV
  have rx : r32 x := okS_h (okS_t hV)
  refine lv_icmp_gt hx hb hd ht (fun q => ?_) (fun q => ?_)
  · exact h1 ((i32_lt rz rx).mp q) p e s m args below meth c H locs ls hC hR hS hL (okS_t (okS_t hV))
  · exact h2 (fun r => q ((i32_lt rz rx).mpr r)) p e s m args below meth c H locs ls hC hR hS hL (okS_t (okS_t hV))
theorem wp_if_gt {x off : Int} {tgt : Nat} (hd : decode y.2.1 pc = .ok (.ifCond .gt off, 3)) (ht : (pc : Int) + off = (tgt : Int)) (h1 : 0 < x → Wp K d y mc ms tgt L S cl sl sh V Q) (h2 : ¬ (0 < x) → Wp K d y mc ms (pc + 3) L S cl sl sh V Q) : Wp K d y mc ms pc L (vI x :: S) cl sl sh V Q := by
  intro p e s m args below meth c H locs ls hC hR hS hL hV
  have hx := hC.1
  have hb := hC.2.1
  have rx : r32 x := okS_h hV
  have rz : r32 0 := r32_0
  refine lv_if_gt hx hb hd ht (fun q => ?_) (fun q => ?_)
  · rw [i32_0] at q
    exact h1 ((i32_lt rz rx).mp q) p e s m args below meth c H locs ls hC hR hS hL (okS_t hV)
  · rw [i32_0] at q
    exact h2 (fun r => q ((i32_lt rz rx).mpr r)) p e s m args below meth c H locs ls hC hR hS hL (okS_t hV)
theorem wp_icmp_le {x z off : Int} {tgt : Nat} (hd : decode y.2.1 pc = .ok (.if_icmp .le off, 3)) (ht : (pc : Int) + off = (tgt : Int)) (h1 : x ≤ z → Wp K d y mc ms tgt L S cl sl sh V Q) (h2 : ¬ (x ≤ z) → Wp K d y mc ms (pc + 3) L S cl sl sh V Q) : Wp K d y mc ms pc L (vI z :: vI x :: S) cl sl sh V Q := by
  intro p e s m args below meth c H locs ls hC hR hS hL hV
  have hx := hC.1
  have hb := hC.2.1
  have rz : r32 z := okS_h hV
  have rx : r32 x := okS_h (okS_t hV)
  refine lv_icmp_le hx hb hd ht (fun q => ?_) (fun q => ?_)
  · exact h1 ((i32_le rx rz).mp q) p e s m args below meth c H locs ls hC hR hS hL (okS_t (okS_t hV))
  · exact h2 (fun r => q ((i32_le rx rz).mpr r)) p e s m args below meth c H locs ls hC hR hS hL (okS_t (okS_t hV))
theorem wp_if_le {x off : Int} {tgt : Nat} (hd : decode y.2.1 pc = .ok (.ifCond .le off, 3)) (ht : (pc : Int) + off = (tgt : Int)) (h1 : x ≤ 0 → Wp K d y mc ms tgt L S cl sl sh V Q) (h2 : ¬ (x ≤ 0) → Wp K d y mc ms (pc + 3) L S cl sl sh V Q) : Wp K d y mc ms pc L (vI x :: S) cl sl sh V Q := by
  intro p e s m args below meth c H locs ls hC hR hS hL hV
  have hx := hC.1
  have hb := hC.2.1
  have rx : r32 x := okS_h hV
  have rz : r32 0 := r32_0
  refine lv_if_le hx hb hd ht (fun q => ?_) (fun q => ?_)
  · rw [i32_0] at q
    exact h1 ((i32_le rx rz).mp q) p e s m args below meth c H locs ls hC hR hS hL (okS_t hV)
  · rw [i32_0] at q
    exact h2 (fun r => q ((i32_le rx rz).mpr r)) p e s m args below meth c H locs ls hC hR hS hL (okS_t hV)
theorem wp_goto {off : Int} {tgt : Nat} (hd : decode y.2.1 pc = .ok (.goto off, 3)) (ht : (pc : Int) + off = (tgt : Int)) (h : Wp K d y mc ms tgt L S cl sl sh V Q) : Wp K d y mc ms pc L S cl sl sh V Q := by
  intro p e s m args below meth c H locs ls hC hR hS hL hV
  have hx := hC.1
  have hb := hC.2.1
  refine lv_goto hx hb hd ht ?_
  exact h p e s m args below meth c H locs ls hC hR hS hL hV
theorem wp_ifnull {a : Nat} {off : Int} (hd : decode y.2.1 pc = .ok (.ifnull off, 3)) (h : Wp K d y mc ms (pc + 3) L S cl sl sh V Q) : Wp K d y mc ms pc L (vR a :: S) cl sl sh V Q := by
  intro p e s m args below meth c H locs ls hC hR hS hL hV
  have hx := hC.1
  have hb := hC.2.1
  refine lv_ifnull hx hb hd ?_
  exact h p e s m args below meth c H locs ls hC hR hS hL (okS_t hV)
theorem wp_ifnullN {off : Int} {tgt : Nat} (hd : decode y.2.1 pc = .ok (.ifnull off, 3)) (ht : (pc : Int) + off = (tgt : Int)) (h : Wp K d y mc ms tgt L S cl sl sh V Q) : Wp K d y mc ms pc L (vN :: S) cl sl sh V Q := by
  intro p e s m args below meth c H locs ls hC hR hS hL hV
  have hx := hC.1
  have hb := hC.2.1
  refine lv_ifnullN hx hb hd ht ?_
  exact h p e s m args below meth c H locs ls hC hR hS hL (okS_t hV)
theorem wp_ifnonnull {a : Nat} {off : Int} {tgt : Nat} (hd : decode y.2.1 pc = .ok (.ifnonnull off, 3)) (ht : (pc : Int) + off = (tgt : Int)) (h : Wp K d y mc ms tgt L S cl sl sh V Q) : Wp K d y mc ms pc L (vR a :: S) cl sl sh V Q := by
  intro p e s m args below meth c H locs ls hC hR hS hL hV
  have hx := hC.1
  have hb := hC.2.1
  refine lv_ifnonnull hx hb hd ht ?_
  exact h p e s m args below meth c H locs ls hC hR hS hL (okS_t hV)
theorem wp_ifnonnullN {off : Int} (hd : decode y.2.1 pc = .ok (.ifnonnull off, 3)) (h : Wp K d y mc ms (pc + 3) L S cl sl sh V Q) : Wp K d y mc ms pc L (vN :: S) cl sl sh V Q := by
  intro p e s m args below meth c H locs ls hC hR hS hL hV
  have hx := hC.1
  have hb := hC.2.1
  refine lv_ifnonnullN hx hb hd ?_
  exact h p e s m args below meth c H locs ls hC hR hS hL (okS_t hV)
theorem wp_tswOut {x dflt lo hi : Int} {offs : Array Int} {len tgt : Nat} (hd : decode y.2.1 pc = .ok (.tableswitch dflt lo hi offs, len)) (hr : x < lo ∨ hi < x) (ht : (pc : Int) + dflt = (tgt : Int)) (h : Wp K d y mc ms tgt L S cl sl sh V Q) : Wp K d y mc ms pc L (vI x :: S) cl sl sh V Q := by
  intro p e s m args below meth c H locs ls hC hR hS hL hV
  have hx := hC.1
  have hb := hC.2.1
  have rx : r32 x := okS_h hV
  refine lv_tableOut hx hb hd (by rw [i32_r rx]; exact hr) ht ?_
  exact h p e s m args below meth c H locs ls hC hR hS hL (okS_t hV)
theorem wp_tswIn {x dflt lo hi : Int} {offs : Array Int} {len : Nat} {off : Int} {tgt : Nat} (hd : decode y.2.1 pc = .ok (.tableswitch dflt lo hi offs, len)) (h1 : ¬ x < lo) (h2 : ¬ hi < x) (ho : offs[(x - lo).toNat]? = some off) (ht : (pc : Int) + off = (tgt : Int)) (h : Wp K d y mc ms tgt L S cl sl sh V Q) : Wp K d y mc ms pc L (vI x :: S) cl sl sh V Q := by
  intro p e s m args below meth c H locs ls hC hR hS hL hV
  have hx := hC.1
  have hb := hC.2.1
  have rx : r32 x := okS_h hV
  refine lv_tableIn hx hb hd (by rw [i32_r rx]; exact h1) (by rw [i32_r rx]; exact h2) (by rw [i32_r rx]; exact ho) ht ?_
  exact h p e s m args below meth c H locs ls hC hR hS hL (okS_t hV)
theorem wp_lsw {x dflt : Int} {ps : Array (Int × Int)} {len : Nat} {off : Int} {tgt : Nat} (hd : decode y.2.1 pc = .ok (.lookupswitch dflt ps, len)) (hp : (ps.toList.zip (ps.toList.drop 1)).all (fun (a, next) => a.1 < next.1) = true) (ho : Op.lookupswitch.offset ps.toList dflt x = off) (ht : (pc : Int) + off = (tgt : Int)) (h : Wp K d y mc ms tgt L S cl sl sh V Q) : Wp K d y mc ms pc L (vI x :: S) cl sl sh V Q := by
  intro p e s m args below meth c H locs ls hC hR hS hL hV
  have hx := hC.1
  have hb := hC.2.1
  have rx : r32 x := okS_h hV
  refine lv_lookup hx hb hd hp (by rw [i32_r rx]; exact ho) ht ?_
  exact h p e s m args below meth c H locs ls hC hR hS hL (okS_t hV)
theorem wp_loc {L2 : List (Option AV)} (hs : sbL L2 L) (h : Wp K d y mc ms pc L2 S cl sl sh V Q) : Wp K d y mc ms pc L S cl sl sh V Q := by
  intro p e s m args below meth c H locs ls hC hR hS hL hV
  have hx := hC.1
  have hb := hC.2.1
  exact h p e s m args below meth c H locs ls hC hR hS ⟨hL.1, hL.2.1, fun k v hk => hL.2.2 k v (sbL_at _ _ hs k v hk)⟩ hV
theorem wp_wfm  (h : (∀ (a : Nat) (q : SC) (k : Nat), sh[a]? = some q → k < q.2.1 → okc q k (V a k)) → Wp K d y mc ms pc L S cl sl sh V Q) : Wp K d y mc ms pc L S cl sl sh V Q := by
  intro p e s m args below meth c H locs ls hC hR hS hL hV
  have hx := hC.1
  have hb := hC.2.1
  exact h hR.2.1 p e s m args below meth c H locs ls hC hR hS hL hV
theorem wp_okL {k : Nat} {v : AV} (hk : L[k]? = some (some v)) (h : okv v → Wp K d y mc ms pc L S cl sl sh V Q) : Wp K d y mc ms pc L S cl sl sh V Q := by
  intro p e s m args below meth c H locs ls hC hR hS hL hV
  have hx := hC.1
  have hb := hC.2.1
  exact h (hL.2.2 k v hk).2 p e s m args below meth c H locs ls hC hR hS hL hV
theorem wp_okS {k : Nat} {v : AV} (hk : S[k]? = some v) (h : okv v → Wp K d y mc ms pc L S cl sl sh V Q) : Wp K d y mc ms pc L S cl sl sh V Q := by
  intro p e s m args below meth c H locs ls hC hR hS hL hV
  have hx := hC.1
  have hb := hC.2.1
  exact h (hV v (List.mem_of_getElem? hk)) p e s m args below meth c H locs ls hC hR hS hL hV
theorem Wp.rets {H : Heap} {locs : List Loc} {s t : State} {args : Array Value} {r : Option AV} (hR : Rel K sh V H) (hS : va_S (kA K) s.heap H locs) (hr : ∀ v, r = some v → okv v) (hq : Q r sh V) (ht : t.heap = H) : QcO K Q args s (.returned (r.map (cv K))) t :=
  ⟨⟨r, sh, V, rfl, hr, by rw [ht]; exact hR, hq⟩, hS.F ht⟩
theorem wp_ireturn {x : Int} (hd : decode y.2.1 pc = .ok (.ireturn, 1)) (hr : y.2.2.2 = some .int) (hc : cl = mc ∧ sl = ms) (h : Q (some (vI x)) sh V) : Wp K d y mc ms pc L [vI x] cl sl sh V Q := by
  intro p e s m args below meth c H locs ls hC hR hS hL hV
  have hx := hC.1
  have hb := hC.2.1
  obtain ⟨rfl, rfl⟩ := hc
  exact W.iret (v := Int32.ofInt x) hx hb (hC.2.2.1.trans hr) (fun t ht hW => Wp.rets (r := some (vI x)) hR hS (fun v q => by cases q; exact okS_h hV) h ht) hS.2.2 hd hC.2.2.2.2.2.2.1
theorem wp_zreturn {x : Int} (hd : decode y.2.1 pc = .ok (.ireturn, 1)) (hr : y.2.2.2 = some .boolean) (hc : cl = mc ∧ sl = ms) (hz : x = 0 ∨ x = 1) (h : Q (some (vI x)) sh V) : Wp K d y mc ms pc L [vI x] cl sl sh V Q := by
  intro p e s m args below meth c H locs ls hC hR hS hL hV
  have hx := hC.1
  have hb := hC.2.1
  obtain ⟨rfl, rfl⟩ := hc
  exact W.zret (v := Int32.ofInt x) hx hb (hC.2.2.1.trans hr) (by rcases hz with rfl | rfl <;> decide) (fun t ht hW => Wp.rets (r := some (vI x)) hR hS (fun v q => by cases q; exact okS_h hV) h ht) hS.2.2 hd hC.2.2.2.2.2.2.1
theorem wp_lreturn {x : Int} (hd : decode y.2.1 pc = .ok (.lreturn, 1)) (hr : y.2.2.2 = some .long) (hc : cl = mc ∧ sl = ms) (h : Q (some (vJ x)) sh V) : Wp K d y mc ms pc L [vJ x] cl sl sh V Q := by
  intro p e s m args below meth c H locs ls hC hR hS hL hV
  have hx := hC.1
  have hb := hC.2.1
  obtain ⟨rfl, rfl⟩ := hc
  exact W.lret (v := Int64.ofInt x) hx hb (hC.2.2.1.trans hr) (fun t ht hW => Wp.rets (r := some (vJ x)) hR hS (fun v q => by cases q; exact okS_h hV) h ht) hS.2.2 hd hC.2.2.2.2.2.2.1
theorem wp_return  (hd : decode y.2.1 pc = .ok (.return_, 1)) (hr : y.2.2.2 = none) (hc : cl = mc ∧ sl = ms) (h : Q none sh V) : Wp K d y mc ms pc L [] cl sl sh V Q := by
  intro p e s m args below meth c H locs ls hC hR hS hL hV
  have hx := hC.1
  have hb := hC.2.1
  obtain ⟨rfl, rfl⟩ := hc
  exact W.vret hx hb (hC.2.2.1.trans hr) (fun t ht hW => Wp.rets (r := none) hR hS (fun v q => by cases q) h ht) hS.2.2 hd hC.2.2.2.2.2.2.1
theorem wp_areturn {r : Option Nat} {C : String} (hd : decode y.2.1 pc = .ok (.areturn, 1)) (hr : y.2.2.2 = some (.object C)) (hc : cl = mc ∧ sl = ms) (h : Q (some (.inr (.inr (.inl r)))) sh V) : Wp K d y mc ms pc L [.inr (.inr (.inl r))] cl sl sh V Q := by
  intro p e s m args below meth c H locs ls hC hR hS hL hV
  have hx := hC.1
  have hb := hC.2.1
  obtain ⟨rfl, rfl⟩ := hc
  exact W.aret (v := cv K (.inr (.inr (.inl r)))) hx hb (hC.2.2.1.trans hr) (Or.inl ⟨_, rfl⟩) (by cases r with | none => exact Or.inl rfl | some a => exact Or.inr ⟨_, rfl⟩) (fun t ht hW => Wp.rets (r := some (.inr (.inr (.inl r)))) hR hS (fun v q => by cases q; exact trivial) h ht) hS.2.2 hd hC.2.2.2.2.2.2.1
end WPR
