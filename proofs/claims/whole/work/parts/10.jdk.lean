/-! ===== rows of the small machine: Object's constructor, Math, System.arraycopy ===== -/
theorem tb_oi1 : Cond.instanceMethod objectInit ∈ tb := tb_of (by decide +kernel) (by decide +kernel)
theorem tb_oi2 : Cond.code objectInit ⟨#[0xb1]⟩ 1 none ∈ tb := tb_of (by decide +kernel) (by decide +kernel)
theorem tb_m0 : Cond.initialized "java/lang/Math" ∈ tb := tb_of (by decide +kernel) (by decide +kernel)
theorem tb_m1 : Cond.static Lib.Math.max.name ∈ tb := tb_of (by decide +kernel) (by decide +kernel)
theorem tb_m2 : Cond.code Lib.Math.max.name Lib.Math.max.code 2 (some .int) ∈ tb := tb_of (by decide +kernel) (by decide +kernel)
theorem tb_m3 : Cond.static Lib.Math.min.name ∈ tb := tb_of (by decide +kernel) (by decide +kernel)
theorem tb_m4 : Cond.code Lib.Math.min.name Lib.Math.min.code 2 (some .int) ∈ tb := tb_of (by decide +kernel) (by decide +kernel)
theorem tb_m5 : Cond.static Lib.MathLoose.min_long.x ∈ tb := tb_of (by decide +kernel) (by decide +kernel)
theorem tb_m6 : Cond.code Lib.MathLoose.min_long.x Lib.MathLoose.min_long.code 4 (some .long) ∈ tb := tb_of (by decide +kernel) (by decide +kernel)
theorem tb_c0 : Cond.initialized "java/lang/System" ∈ tb := tb_of (by decide +kernel) (by decide +kernel)
theorem tb_c1 : Cond.native arraycopyName ∈ tb := tb_of (by decide +kernel) (by decide +kernel)
theorem tb_c2 : Cond.static arraycopyName ∈ tb := tb_of (by decide +kernel) (by decide +kernel)
def cpm (V : Mem) (a0 sp a1 dp n : Nat) : Mem := fun b j => if b = a1 ∧ dp ≤ j ∧ j < dp + n then V a0 (sp + (j - dp)) else V b j
section WPJ
variable {K : KK} {d : Nat} {y : MI} {mc ms pc : Nat} {L : List (Option AV)} {S : List AV} {cl sl : Nat} {sh : List SC} {V : Mem} {Q : Option AV → List SC → Mem → Prop}
theorem wp_objInit {idx a : Nat} (hd : decode y.2.1 pc = .ok (.invokespecial idx, 3)) (hl : Cond.methodLink y.1.cls idx objectInit ∈ tb) (hdd : 1 ≤ d) (hW : cats S ≤ 8) (h : Wp K d y mc ms (pc + 3) L S cl sl sh V Q) : Wp K d y mc ms pc L (vR a :: S) cl sl sh V Q := by
  intro p e s m args below meth c H locs ls hC hR hS hL hV
  have hts := hC.2.2.2.2.2.1
  have hr := lv_room (m := m) (pc := pc) (ls := ls) (rest := (vR a :: S).map (cv K)) (st := S.map (cv K)) (by rw [cats_cv]; exact hW)
  refine W.objInit (rest := S.map (cv K)) hC.1 hC.2.1 hC.2.2.2.2.1 (hts _ hl) (hts _ tb_oi1) (hts _ tb_oi2) rfl (hL.1.trans hC.2.2.2.1.symm) rfl hd hdd (by show _ ≤ 40 * d; omega) ?_
  exact h p e s m args below meth c H locs ls hC hR hS hL (okS_t hV)
theorem wp_mmax {idx : Nat} {x z : Int} (hd : decode y.2.1 pc = .ok (.invokestatic idx, 3)) (hl : Cond.methodLink y.1.cls idx Lib.Math.max.name ∈ tb) (hdd : 1 ≤ d) (hW : cats S ≤ 8) (hm : cl ≤ mc ∧ sl ≤ ms) (h : Wp K d y mc ms (pc + 3) L (vI (max x z) :: S) cl sl sh V Q) : Wp K d y mc ms pc L (vI z :: vI x :: S) cl sl sh V Q := by
  intro p e s m args below meth c H locs ls hC hR hS hL hV
  have hts := hC.2.2.2.2.2.1
  have rz : r32 z := okS_h hV
  have rx : r32 x := okS_h (okS_t hV)
  refine va_mmax hC.1 hC.2.1 (hC.2.2.2.1.trans hL.1.symm) hC.2.2.2.2.1 (hts _ hl) (hts _ tb_m1) (hts _ tb_m0) (hts _ tb_m2) hdd (by rw [cats_cv]; show _ ≤ 40 * d; omega) hm.1 hm.2 hd ?_
  rw [show (if Int32.ofInt x < Int32.ofInt z then Int32.ofInt z else Int32.ofInt x) = Int32.ofInt (max x z) from by
    by_cases q : x < z
    · rw [if_pos ((i32_lt rx rz).mpr q), Int.max_eq_right (by omega)]
    · rw [if_neg (fun r => q ((i32_lt rx rz).mp r)), Int.max_eq_left (by omega)]]
  exact h p e s m args below meth c H locs ls hC hR hS hL (okS_c (show r32 _ from by unfold r32 at *; omega) (okS_t (okS_t hV)))
theorem wp_mmin {idx : Nat} {x z : Int} (hd : decode y.2.1 pc = .ok (.invokestatic idx, 3)) (hl : Cond.methodLink y.1.cls idx Lib.Math.min.name ∈ tb) (hdd : 1 ≤ d) (hW : cats S ≤ 8) (hm : cl ≤ mc ∧ sl ≤ ms) (h : Wp K d y mc ms (pc + 3) L (vI (min x z) :: S) cl sl sh V Q) : Wp K d y mc ms pc L (vI z :: vI x :: S) cl sl sh V Q := by
  intro p e s m args below meth c H locs ls hC hR hS hL hV
  have hts := hC.2.2.2.2.2.1
  have rz : r32 z := okS_h hV
  have rx : r32 x := okS_h (okS_t hV)
  refine va_mmin hC.1 hC.2.1 (hC.2.2.2.1.trans hL.1.symm) hC.2.2.2.2.1 (hts _ hl) (hts _ tb_m3) (hts _ tb_m0) (hts _ tb_m4) hdd (by rw [cats_cv]; show _ ≤ 40 * d; omega) hm.1 hm.2 hd ?_
  rw [show (if Int32.ofInt z < Int32.ofInt x then Int32.ofInt z else Int32.ofInt x) = Int32.ofInt (min x z) from by
    by_cases q : z < x
    · rw [if_pos ((i32_lt rz rx).mpr q), Int.min_eq_right (by omega)]
    · rw [if_neg (fun r => q ((i32_lt rz rx).mp r)), Int.min_eq_left (by omega)]]
  exact h p e s m args below meth c H locs ls hC hR hS hL (okS_c (show r32 _ from by unfold r32 at *; omega) (okS_t (okS_t hV)))
theorem wp_minl {idx : Nat} {x z : Int} (hd : decode y.2.1 pc = .ok (.invokestatic idx, 3)) (hl : Cond.methodLink y.1.cls idx Lib.MathLoose.min_long.x ∈ tb) (hdd : 1 ≤ d) (hW : cats S ≤ 8) (hm : cl ≤ mc ∧ sl ≤ ms) (h : Wp K d y mc ms (pc + 3) L (vJ (min x z) :: S) cl sl sh V Q) : Wp K d y mc ms pc L (vJ z :: vJ x :: S) cl sl sh V Q := by
  intro p e s m args below meth c H locs ls hC hR hS hL hV
  have hts := hC.2.2.2.2.2.1
  have rz : r64 z := okS_h hV
  have rx : r64 x := okS_h (okS_t hV)
  refine va_mmin_long hC.1 hC.2.1 (hC.2.2.2.1.trans hL.1.symm) hC.2.2.2.2.1 (hts _ hl) (hts _ tb_m5) (hts _ tb_m0) (hts _ tb_m6) hdd (by rw [cats_cv]; show _ ≤ 40 * d; omega) hm.1 hm.2 hd ?_
  rw [show (if Int64.ofInt z < Int64.ofInt x then Int64.ofInt z else Int64.ofInt x) = Int64.ofInt (min x z) from by
    by_cases q : z < x
    · rw [if_pos ((i64_lt rz rx).mpr q), Int.min_eq_right (by omega)]
    · rw [if_neg (fun r => q ((i64_lt rz rx).mp r)), Int.min_eq_left (by omega)]]
  exact h p e s m args below meth c H locs ls hC hR hS hL (okS_c (show r64 _ from by unfold r64 at *; omega) (okS_t (okS_t hV)))
theorem wp_copy {idx a0 a1 n0 n1 : Nat} {rs0 rs1 : List (Option Nat)} {sp dp n : Int} (hd : decode y.2.1 pc = .ok (.invokestatic idx, 3)) (hl : Cond.methodLink y.1.cls idx arraycopyName ∈ tb) (hE : kE K = false) (hdd : 1 ≤ d) (hW : cats S ≤ 4) (hq0 : sh[a0]? = some (14, n0, rs0)) (hq1 : sh[a1]? = some (14, n1, rs1)) (hs : 0 ≤ sp ∧ 0 ≤ dp ∧ 0 ≤ n ∧ sp + n ≤ n0 ∧ dp + n ≤ n1) (h : Wp K d y mc ms (pc + 3) L S cl sl sh (cpm V a0 sp.toNat a1 dp.toNat n.toNat) Q) : Wp K d y mc ms pc L (vI n :: vI dp :: vR a1 :: vI sp :: vR a0 :: S) cl sl sh V Q := by
  intro p e s m args below meth c H locs ls hC hR hS hL hV
  have hts := hC.2.2.2.2.2.1
  have rn : r32 n := okS_h hV
  have rd : r32 dp := okS_h (okS_t hV)
  have rs : r32 sp := okS_h (okS_t (okS_t (okS_t hV)))
  obtain ⟨g1, g2, g3, g4, g5⟩ := hs
  have nn : ∀ z : Int, r32 z → 0 ≤ z → ¬ Int32.ofInt z < 0 := fun z hz h0 q => by rw [i32_0, i32_lt hz r32_0] at q; omega
  have hnw : nativeFrameWords "java/lang/System" "arraycopy" 5 + 11 ≤ 36 := by decide
  refine va_copyi (D := kD K) (cl := vwCl) (tys := tyL K) (ws := wsO K sh V) (A := kA K) (H0 := s.heap) (ty := .int) (f := fun k => Int32.ofInt (V a0 k)) (g := fun k => Int32.ofInt (V a1 k)) hC.1 hC.2.1 (hC.2.2.2.1.trans hL.1.symm) hC.2.2.2.2.1 (hts _ hl) (hts _ tb_c1) (hts _ tb_c2) (hts _ tb_c0) hC.2.2.2.2.2.2.2.1 hR.1 (wsO_D K sh V) hS a0 a1 1 1 (wsO_at hq0) (wsO_at hq1) rfl rfl rfl (nn _ rs g1) (nn _ rd g2) (nn _ rn g3) (by rw [i32_cl rs, i32_cl rn]; show _ ≤ n0; omega) (by rw [i32_cl rd, i32_cl rn]; show _ ≤ n1; omega) (fun i hi => rfl) hdd (by rw [cats_cv]; show _ ≤ 40 * d; omega) hd (fun H1 locs1 hP1 hD1 hS1 => ?_)
  refine h p e s m args below meth c H1 locs1 ls hC ⟨?_, fun b q j hb hj => ?_, fun q => by rw [hE] at q; cases q⟩ hS1 hL (okS_t (okS_t (okS_t (okS_t (okS_t hV)))))
  · have e1 := wsO_set (K := K) (V := V) (V' := cpm V a0 sp.toNat a1 dp.toNat n.toNat) hq1 (fun b hb => funext fun j => if_neg (fun q => hb q.1))
    rw [← e1]
    rw [i32_cl rs, i32_cl rd, i32_cl rn] at hP1
    have e2 : cE K (14, n1, rs1) (cpm V a0 sp.toNat a1 dp.toNat n.toNat a1) = .inl (kY K 14, n1, .inl (va_cpy (fun k => Int32.ofInt (V a0 k)) (fun k => Int32.ofInt (V a1 k)) sp.toNat dp.toNat n.toNat)) := by
      rw [cE_i]
      congr 4
      funext j
      unfold cpm va_cpy
      by_cases q : dp.toNat ≤ j ∧ j < dp.toNat + n.toNat
      · rw [if_pos ⟨rfl, q⟩, if_pos q]
      · rw [if_neg (fun r => q r.2), if_neg q]
    rw [e2]
    exact hP1
  · unfold cpm
    by_cases q2 : b = a1 ∧ dp.toNat ≤ j ∧ j < dp.toNat + n.toNat
    · rw [if_pos q2]
      obtain ⟨rfl, q3⟩ := q2
      cases hq1.symm.trans hb
      exact okc_i2 (by decide) (okc_i (n := n0) (rs := rs0) (k := sp.toNat + (j - dp.toNat)) (by decide) (hR.2.1 a0 _ _ hq0 (by show _ < n0; omega)))
    · rw [if_neg q2]
      exact hR.2.1 b q j hb hj
end WPJ
