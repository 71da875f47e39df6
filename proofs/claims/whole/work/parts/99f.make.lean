/-! ===== rows of the small machine: cells that are made (the heap's end is the world's end) ===== -/
theorem wsO_push {K : KK} {sh : List SC} {V : Mem} {q : SC} : wsO K (sh ++ [q]) V = wsO K sh V ++ [(kB K + sh.length, cE K q (V sh.length))] := by
  unfold wsO
  rw [show (sh ++ [q]).length = sh.length + 1 by simp, List.range_succ, List.map_append]
  congr 1
  · apply List.map_congr_left
    intro a ha
    have hl : a < sh.length := List.mem_range.mp ha
    rw [List.getD_eq_getElem?_getD, List.getD_eq_getElem?_getD, List.getElem?_append_left hl]
  · simp [List.getD_eq_getElem?_getD]
theorem okc0 (q : SC) (k : Nat) : okc q k 0 := by
  unfold okc
  split
  · cases fty q.1 k <;> simp [av, okv, r32, r64]
  · split
    · unfold r64; omega
    · exact Or.inl r32_0
theorem Rel.push {K : KK} {sh : List SC} {V : Mem} {H H1 : Heap} {q : SC} (hR : Rel K sh V H) (hE : kE K = true) (z : H1.size = H.size + 1) (o : ∀ p, p < H.size → H1[p]? = H[p]?) (he : va_at (kD K) vwCl (kB K + sh.length, cE K q (V sh.length)) H1) (hx : ∀ k, k < q.2.1 → V sh.length k = 0) : Rel K (sh ++ [q]) V H1 := by
  refine ⟨?_, fun a q2 k ha hk => ?_, fun _ => ?_⟩
  · rw [wsO_push]
    refine (hR.1.kept (fun k x hx => o x.1 ((hR.1 k x hx).lt))).app (fun k x hx => ?_)
    have hz : k < 1 := (List.getElem?_eq_some_iff.mp hx).1
    rw [show k = 0 by omega] at hx
    cases hx
    exact he
  · by_cases hl : a < sh.length
    · rw [List.getElem?_append_left hl] at ha
      exact hR.2.1 a q2 k ha hk
    · rw [List.getElem?_append_right (by omega)] at ha
      have hz : a - sh.length < 1 := (List.getElem?_eq_some_iff.mp ha).1
      rw [show a - sh.length = 0 by omega] at ha
      cases ha
      rw [show a = sh.length by omega, hx k hk]
      exact okc0 _ _
  · rw [z, hR.2.2 hE, show (sh ++ [q]).length = sh.length + 1 by simp]
    omega
theorem vaS_push {A : Nat → Prop} {H0 H H1 : Heap} {locs : List Loc} (hS : va_S A H0 H locs) (z : H1.size = H.size + 1) (o : ∀ p, p < H.size → H1[p]? = H[p]?) : va_S A H0 H1 locs := ⟨Nat.le_trans hS.1 (by omega), fun x h1 h2 => (o x (Nat.lt_of_lt_of_le h1 hS.1)).trans (hS.2.1 x h1 h2), hS.2.2⟩
/-- a field that may lie in a cell of ours -/
def dfo (ty : FieldType) : Bool := match ty with
  | .float => false
  | .double => false
  | _ => true
theorem dv0 {K : KK} {ty : FieldType} (h : dfo ty = true) : cv K (av ty none 0) = defaultValue ty := by
  cases ty <;> first | rfl | (simp [dfo] at h)
def NEW (own : String) (idx c N : Nat) : Prop := ∃ (C : String) (T : u_T), CLS c C T N ∧ Cond.classLink own idx C ∈ tb ∧ Cond.instantiable C N ∈ tb ∧ Cond.initialized C ∈ tb ∧ ∀ k, k < N → dfo (fty c k) = true
section WPM
variable {K : KK} {d : Nat} {y : MI} {mc ms pc : Nat} {L : List (Option AV)} {S : List AV} {cl sl : Nat} {sh : List SC} {V : Mem} {Q : Option AV → List SC → Mem → Prop}
theorem wp_new {idx c N : Nat} (hd : decode y.2.1 pc = .ok (.new idx, 3)) (hn : NEW y.1.cls idx c N) (hE : kE K = true) (hV : ∀ k, k < N → V sh.length k = 0) (hm : cl + 1 ≤ mc ∧ sl + N ≤ ms) (h : Wp K d y mc ms (pc + 3) L (vR sh.length :: S) (cl + 1) (sl + N) (sh ++ [(c, N, List.replicate N none)]) V Q) : Wp K d y mc ms pc L S cl sl sh V Q := by
  intro p e s m args below meth c0 H locs ls hC hR hS hL hSt
  obtain ⟨C, T, ⟨hc13, hcl, hin, hty, hnm⟩, h1, h2, h3, h4⟩ := hn
  have hts := hC.2.2.2.2.2.1
  have hK := hC.2.2.2.2.2.2.2.1
  have hKn := hK.1 c _ hcl
  refine W.newcK hC.1 hC.2.1 hC.2.2.2.2.1 (hts _ h1) (hts _ h2) (hts _ h3) rfl hd hm.1 hm.2 hKn.2.1 rfl fun H1 kC hkC e1 z1 o1 => ?_
  have hz := hR.2.2 hE
  rw [hz] at e1 z1 o1 ⊢
  refine h p e s m args below meth c0 H1 locs ls hC (hR.push hE (by rw [z1, hz]) (by rw [hz]; exact o1) ?_ hV) (vaS_push hS (by rw [z1, hz]) (by rw [hz]; exact o1)) hL (okS_c trivial hSt)
  rw [cE_o hc13]
  refine ⟨_, hcl, (u_born (fty c) hts hin hKn hkC e1 hty).to (fun j hj => ?_)⟩
  have e2 : vp_V ((List.range N).map (fun k => cv K (av (fty c k) ((List.replicate N none).getD k none) (V sh.length k)))) j = cv K (av (fty c j) ((List.replicate N none).getD j none) (V sh.length j)) := by
    unfold vp_V
    rw [List.getD_eq_getElem?_getD, fs_at hj]
    rfl
  rw [e2, hV j hj]
  have e3 : (List.replicate N (none : Option Nat)).getD j none = none := by
    rw [List.getD_eq_getElem?_getD, List.getElem?_replicate]
    split <;> rfl
  rw [e3, dv0 (h4 j hj)]
def atyO (c : Nat) : ArrayType := if c = 13 then .char else if c = 14 then .int else if c = 15 then .long else .boolean
def ftyO (c : Nat) : FieldType := if c = 13 then .char else if c = 14 then .int else if c = 15 then .long else .boolean
theorem wp_newa {c : Nat} {x : Int} (hc : c = 13 ∨ c = 14 ∨ c = 15 ∨ c = 16) (hd : decode y.2.1 pc = .ok (.newarray (atyO c), 2)) (hn : Cond.arrayClass (ftyO c) ∈ tb) (hE : kE K = true) (hx : 0 ≤ x ∧ x ≤ 100000) (hV : ∀ k, k < x.toNat → V sh.length k = 0) (hm : cl + 1 ≤ mc ∧ sl + x.toNat ≤ ms) (h : Wp K d y mc ms (pc + 2) L (vR sh.length :: S) (cl + 1) (sl + x.toNat) (sh ++ [(c, x.toNat, [])]) V Q) : Wp K d y mc ms pc L (vI x :: S) cl sl sh V Q := by
  intro p e s m args below meth c0 H locs ls hC hR hS hL hSt
  have hts := hC.2.2.2.2.2.1
  have hK := hC.2.2.2.2.2.2.2.1
  have rx : r32 x := okS_h hSt
  have hz := hR.2.2 hE
  have nn : ¬ Int32.ofInt x < 0 := fun q => by rw [i32_0, i32_lt rx r32_0] at q; omega
  have et : newarray.typeOf (atyO c) = ftyO c := by rcases hc with rfl | rfl | rfl | rfl <;> rfl
  have eb : x.toNat * componentBytes (ftyO c) ≤ 536870912 := by
    have : componentBytes (ftyO c) ≤ 8 := by rcases hc with rfl | rfl | rfl | rfl <;> decide
    calc x.toNat * componentBytes (ftyO c) ≤ 100000 * 8 := Nat.mul_le_mul (by omega) this
      _ ≤ 536870912 := by decide
  refine va_newaK (N := x.toNat) hC.1 hC.2.1 (by rw [et]; exact hts _ hn) rfl hd rfl nn (i32_cl rx) (by rw [et]; exact eb) hm.1 hm.2 rfl fun H1 cA e1 z1 o1 hAr hNm => ?_
  rw [et] at e1 hNm
  rw [hz] at e1 z1 o1 ⊢
  have ecA : cA = kY K c := by
    rcases hc with rfl | rfl | rfl | rfl
    · exact Option.some.inj (hNm.symm.trans (hK.2 0 _ rfl).2)
    · exact Option.some.inj (hNm.symm.trans (hK.2 1 _ rfl).2)
    · exact Option.some.inj (hNm.symm.trans (hK.2 2 _ rfl).2)
    · exact Option.some.inj (hNm.symm.trans (hK.2 3 _ rfl).2)
  subst ecA
  refine h p e s m args below meth c0 H1 locs ls hC (hR.push hE (by rw [z1, hz]) (by rw [hz]; exact o1) ?_ hV) (vaS_push hS (by rw [z1, hz]) (by rw [hz]; exact o1)) hL (okS_c trivial (okS_t hSt))
  have ex : ∀ f : Nat → Value, (∀ j, j < x.toNat → f j = defaultValue (ftyO c)) → arrV (kY K c) x.toNat (fun _ => defaultValue (ftyO c)) = arrV (kY K c) x.toNat f := fun f hf => by
    unfold arrV
    congr 2
    funext j
    exact (hf j.1 j.2).symm
  rcases hc with rfl | rfl | rfl | rfl
  · show H1[kB K + sh.length]? = some (arrV (kY K 13) x.toNat (fun j => .int (Int32.ofInt (V sh.length j))))
    rw [e1]
    exact congrArg some (ex _ (fun j hj => by rw [hV j hj]; rfl))
  · show H1[kB K + sh.length]? = some (arrV (kY K 14) x.toNat (fun j => .int (Int32.ofInt (V sh.length j))))
    rw [e1]
    exact congrArg some (ex _ (fun j hj => by rw [hV j hj]; rfl))
  · show H1[kB K + sh.length]? = some (arrV (kY K 15) x.toNat (fun j => .long (Int64.ofInt (V sh.length j))))
    rw [e1]
    exact congrArg some (ex _ (fun j hj => by rw [hV j hj]; rfl))
  · show H1[kB K + sh.length]? = some (arrV (kY K 16) x.toNat (fun j => .int (Int32.ofInt (V sh.length j))))
    rw [e1]
    exact congrArg some (ex _ (fun j hj => by rw [hV j hj]; rfl))
end WPM
