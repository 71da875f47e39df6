/-! ===== rows of the small machine: references are laid ===== -/
theorem push_at {H H1 : Heap} {x : Cell} (h : H.push x = H1) : H1.size = H.size + 1 ∧ H1[H.size]? = some x ∧ ∀ q : Nat, q < H.size → H1[q]? = H[q]? := by
  subst h
  exact ⟨Array.size_push _, Array.getElem?_push_size, fun q hq => by simp [Array.getElem?_push, Nat.ne_of_lt hq]⟩
theorem fin_own {args : Array Value} {s : State} {C O n d : String} {cf fi : Nat} {kf : Class} {f : Field} (h : (Cond.laysFinal C O n d).before args s = true) (hi : s.fieldFound? O n d = some (cf, kf, fi, f)) : s.vm.findClass O = some cf := by
  rcases Cond.laysFinal_spec h with ⟨_, _, _, _, _, _, -, -, g1, -, -, -, g2, -⟩
  cases hi.symm.trans g1
  exact g2
theorem wsO_setS {K : KK} {sh : List SC} {V : Mem} {a : Nat} {q q' : SC} (h : sh[a]? = some q) : (wsO K sh V).set a (kB K + a, cE K q' (V a)) = wsO K (sh.set a q') V := by
  have hl : a < sh.length := (List.getElem?_eq_some_iff.mp h).1
  apply List.ext_getElem?
  intro i
  by_cases hi : i = a
  · subst hi
    rw [List.getElem?_set_self (by rw [wsO_len]; exact hl), wsO_at (q := q') (by rw [List.getElem?_set_self hl])]
  · rw [List.getElem?_set_ne (Ne.symm hi)]
    by_cases hil : i < sh.length
    · have e : sh[i]? = some sh[i] := List.getElem?_eq_getElem hil
      rw [wsO_at e, wsO_at (q := sh[i]) (by rw [List.getElem?_set_ne (Ne.symm hi)]; exact e)]
    · rw [List.getElem?_eq_none (by rw [wsO_len]; omega), List.getElem?_eq_none (by rw [wsO_len, List.length_set]; omega)]
/-- a cell's references are new, the others are as they were -/
theorem Rel.shp {K : KK} {sh : List SC} {V : Mem} {H H1 : Heap} {a c n : Nat} {rs rs' : List (Option Nat)} (hR : Rel K sh V H) (hq : sh[a]? = some (c, n, rs)) (he : va_at (kD K) vwCl (kB K + a, cE K (c, n, rs') (V a)) H1) (z : H1.size = H.size) (oq : ∀ p, p ≠ kB K + a → H1[p]? = H[p]?) : Rel K (sh.set a (c, n, rs')) V H1 := by
  refine ⟨?_, fun b q2 j hb hj => ?_, fun hE => by rw [z, List.length_set]; exact hR.2.2 hE⟩
  · rw [← wsO_setS (V := V) (q' := (c, n, rs')) hq]
    exact hR.1.set (wsO_D K sh V) (wsO_at hq) he oq
  · by_cases hba : b = a
    · subst hba
      have hl : b < sh.length := (List.getElem?_eq_some_iff.mp hq).1
      rw [List.getElem?_set_self hl] at hb
      cases hb
      have := hR.2.1 b _ j hq hj
      unfold okc at this ⊢
      exact this
    · rw [List.getElem?_set_ne (Ne.symm hba)] at hb
      exact hR.2.1 b q2 j hb hj
def clO (c : Nat) : String := if c = 17 then "ChainIndex$Braid" else if c = 18 then "ChainIndex$Row" else "ChainIndex$Store"
def ccO (c : Nat) : Nat := if c = 17 then 0 else if c = 18 then 6 else 7
section WPN
variable {K : KK} {d : Nat} {y : MI} {mc ms pc : Nat} {L : List (Option AV)} {S : List AV} {cl sl : Nat} {sh : List SC} {V : Mem} {Q : Option AV → List SC → Mem → Prop}
theorem wp_anew {c idx : Nat} {x : Int} (hc : c = 17 ∨ c = 18 ∨ c = 19) (hd : decode y.2.1 pc = .ok (.anewarray idx, 3)) (hn : Cond.classLink y.1.cls idx (clO c) ∈ tb) (hO : ∀ U H, kZ K U H → va_AO (clO c) U) (hE : kE K = true) (hx : 0 ≤ x ∧ x ≤ 100000) (hm : cl + 1 ≤ mc ∧ sl + x.toNat ≤ ms) (hV : ∀ k, k < x.toNat → V sh.length k = 0) (h : Wp K d y mc ms (pc + 3) L (vR sh.length :: S) (cl + 1) (sl + x.toNat) (sh ++ [(c, x.toNat, List.replicate x.toNat none)]) V Q) : Wp K d y mc ms pc L (vI x :: S) cl sl sh V Q := by
  intro p e s m args below meth c0 H locs ls hC hR hS hL hSt
  have hts := hC.2.2.2.2.2.1
  have hK := hC.2.2.2.2.2.2.2.1
  have hkz := hC.2.2.2.2.2.2.2.2.2.2.2.2.2
  have rx : r32 x := okS_h hSt
  have hz := hR.2.2 hE
  have nn : ¬ Int32.ofInt x < 0 := fun q => by rw [i32_0, i32_lt rx r32_0] at q; omega
  refine W.anew hC.1 hC.2.1 hC.2.2.2.2.1 (hts _ hn) (va_AO.use (hO _ _ hkz)) rfl hd rfl nn (by rw [i32_cl rx]; omega) hm.1 (by rw [i32_cl rx]; exact hm.2) fun cA kA comp f1 f2 f3 f4 => ?_
  rw [i32_cl rx]
  generalize hH1 : H.push ({ cls := cA, slots := Array.replicate x.toNat .null, vm := .none } : Cell) = H1
  obtain ⟨z1, e1, o1⟩ := push_at hH1
  rw [arrV_new] at e1
  have ecA : cA = kY K c := by
    rcases hc with rfl | rfl | rfl
    · obtain ⟨_, _, _, _, _, q⟩ := (hK.2 4 _ rfl).2
      exact Option.some.inj (f1.symm.trans q)
    · obtain ⟨_, _, _, _, _, q⟩ := (hK.2 5 _ rfl).2
      exact Option.some.inj (f1.symm.trans q)
    · obtain ⟨_, _, _, _, _, q⟩ := (hK.2 6 _ rfl).2
      exact Option.some.inj (f1.symm.trans q)
  subst ecA
  rw [hz] at e1 ⊢
  refine h p e s m args below meth c0 H1 locs ls hC (hR.push hE z1 o1 ?_ hV) (vaS_push hS z1 o1) hL (okS_c trivial (okS_t hSt))
  have ef : (fun j => va_rf (((List.replicate x.toNat (none : Option Nat)).getD j none).map (fun a => kB K + a))) = (fun _ => Value.null) := by
    funext j
    have e3 : (List.replicate x.toNat (none : Option Nat)).getD j none = none := by
      rw [List.getD_eq_getElem?_getD, List.getElem?_replicate]
      split <;> rfl
    rw [e3]
    rfl
  have key : va_at (kD K) vwCl (kB K + sh.length, .inl (kY K c, x.toNat, .inr (.inr (.inr (.inr (fun k => ((List.replicate x.toNat (none : Option Nat)).getD k none).map (fun a => kB K + a))))))) H1 := by
    show H1[kB K + sh.length]? = some (arrV (kY K c) x.toNat (fun j => va_rf (((List.replicate x.toNat (none : Option Nat)).getD j none).map (fun a => kB K + a))))
    rw [ef]
    exact e1
  rcases hc with rfl | rfl | rfl <;> exact key
theorem wp_aast {a v c n nn : Nat} {rs rs' : List (Option Nat)} {i : Int} (hc : c = 17 ∨ c = 18 ∨ c = 19) (hd : decode y.2.1 pc = .ok (.aastore, 1)) (hq : sh[a]? = some (c, n, rs)) (hv : sh[v]? = some (ccO c, nn, rs')) (hi : 0 ≤ i ∧ i < n) (hl : rs.length = n) (h : Wp K d y mc ms (pc + 1) L S cl sl (sh.set a (c, n, rs.set i.toNat (some v))) V Q) : Wp K d y mc ms pc L (vR v :: vI i :: vR a :: S) cl sl sh V Q := by
  intro p e s m args below meth c0 H locs ls hC hR hS hL hSt
  have hK := hC.2.2.2.2.2.2.2.1
  have ri : r32 i := okS_h (okS_t hSt)
  have he : H[kB K + a]? = some (arrV (kY K c) n (fun j => va_rf ((rs.getD j none).map (fun a => kB K + a)))) := by
    have h1 := hR.1 a _ (wsO_at hq)
    rcases hc with rfl | rfl | rfl <;> exact h1
  have hcl : ∃ r : vw_C, vwCl[ccO c]? = some r ∧ r.1 = clO c := by
    rcases hc with rfl | rfl | rfl
    · exact ⟨_, rfl, rfl⟩
    · exact ⟨_, rfl, rfl⟩
    · exact ⟨_, rfl, rfl⟩
  obtain ⟨r, hr1, hr2⟩ := hcl
  have hv1 := hR.1 v _ (wsO_at hv)
  rw [cE_o (by rcases hc with rfl | rfl | rfl <;> decide)] at hv1
  obtain ⟨r', hr', cellV, g1, g2, g3, -⟩ := hv1
  have hcls := (hK.1 (ccO c) r hr1).2
  have hA : ∃ (kA : Class) (comp : ClassId), s.vm.classes[kY K c]? = some kA ∧ kA.kind = .array comp (.object (clO c)) ∧ s.vm.findClass (clO c) = some comp := by
    rcases hc with rfl | rfl | rfl
    · obtain ⟨kA, comp, q1, q2, q3, _⟩ := (hK.2 4 _ rfl).2
      exact ⟨kA, comp, q1, q2, q3⟩
    · obtain ⟨kA, comp, q1, q2, q3, _⟩ := (hK.2 5 _ rfl).2
      exact ⟨kA, comp, q1, q2, q3⟩
    · obtain ⟨kA, comp, q1, q2, q3, _⟩ := (hK.2 6 _ rfl).2
      exact ⟨kA, comp, q1, q2, q3⟩
  obtain ⟨kA, comp, k1, k2, k3⟩ := hA
  have hcomp : comp = (kD K).1 (ccO c) := Option.some.inj (k3.symm.trans (by rw [← hr2]; exact hcls.1))
  subst hcomp
  obtain ⟨kC, hkC, -⟩ := hcls.2
  refine W.aast hC.1 hC.2.1 he (fun q h => by cases h) (fun h => by cases h) k1 k2 rfl hkC ⟨fun q => (i32_in ri hi.1 hi.2) (Or.inl q), by rw [arrV_size, i32_cl ri]; omega⟩ g1 (fun q h => by rw [g3] at h; cases h) (by rw [g2]; exact hkC) (by rw [g2]; exact va_assign hcls) rfl rfl hd fun H1 e1 z oq => ?_
  refine h p e s m args below meth c0 H1 _ ls hC (hR.shp hq ?_ z oq) (hS.put z oq (show kB K ≤ kB K + a by omega)) hL (okS_t (okS_t (okS_t hSt)))
  have key : va_at (kD K) vwCl (kB K + a, .inl (kY K c, n, .inr (.inr (.inr (.inr (fun k => ((rs.set i.toNat (some v)).getD k none).map (fun a => kB K + a))))))) H1 := by
    show H1[kB K + a]? = some (arrV (kY K c) n (fun j => va_rf (((rs.set i.toNat (some v)).getD j none).map (fun a => kB K + a))))
    rw [e1, arrV_store, i32_cl ri]
    congr 2
    funext j
    unfold updV
    by_cases hj : j = i.toNat
    · subst hj
      rw [if_pos rfl, List.getD_eq_getElem?_getD, List.getElem?_set_self (by omega)]
      rfl
    · rw [if_neg hj]
      dsimp only
      rw [List.getD_eq_getElem?_getD, List.getD_eq_getElem?_getD, List.getElem?_set_ne (Ne.symm hj)]
  rcases hc with rfl | rfl | rfl <;> exact key
theorem wp_putF {idx a b c k n : Nat} {rs : List (Option Nat)} (hd : decode y.2.1 pc = .ok (.putfield idx, 3)) (hf : FLF y.1.cls idx c k) (hi : fk (fty c k) = 2) (hy : y.1.name = "<init>") (hq : sh[a]? = some (c, n, rs)) (hk : k < n) (hl : k < rs.length) (h : Wp K d y mc ms (pc + 3) L S cl sl (sh.set a (c, n, rs.set k (some b))) V Q) : Wp K d y mc ms pc L (vR b :: vR a :: S) cl sl sh V Q := by
  intro p e s m args below meth c0 H locs ls hC hR hS hL hSt
  obtain ⟨C, T, N, ⟨hc13, hcl, hin, hty, hnm⟩, hkN, hlk, hfin, hdecl⟩ := hf
  have hts := hC.2.2.2.2.2.1
  have hK := hC.2.2.2.2.2.2.2.1
  have hown := hC.2.2.2.2.1
  have hap := va_apart (own := y.1.cls) hts hin (fty c) hty hnm hK hcl
  have he := wsO_at (K := K) (V := V) hq
  rw [cE_o hc13] at he
  have ⟨cf, kf, fi, f, kC, ⟨z1, z2, z3⟩, ff, hsl, hst, lay⟩ := fd_kn (fun w hw => hts w (hin w hw)) hK hcl hkN
  rw [lay_b hfin] at lay
  have ⟨r, h1, ob, q1, q2, q3, q4⟩ := hR.1 a _ he
  cases Option.some.inj (h1.symm.trans hcl)
  have hcf : m.cls = cf := Option.some.inj (hown.symm.trans (hdecl ▸ fin_own lay ff))
  have hnf : narrow (fty c k) (.ref (kB K + b)) = .ref (kB K + b) ∧ fits (fty c k) (.ref (kB K + b)) = true := by
    generalize fty c k = ty at hi
    cases ty <;> first | exact ⟨rfl, rfl⟩ | (simp [fk] at hi)
  have room : narrow f.type (.ref (kB K + b)) = .ref (kB K + b) ∧ s.fitsSlot ob.cls .none f.slot (.ref (kB K + b)) = true := q2 ▸ u_fits z1 z2 z3 (Or.inr lay) ff (hty k hkN) hnf.1 hnf.2
  refine W.putFinK hC.1 hC.2.1 hown (hts _ hlk) ff hst hcf (hC.2.2.2.2.2.2.2.2.2.2.1.trans hy) room q1 q3 (hsl ▸ k2_hasslot (q4 k hkN)) rfl rfl hd fun H' e1 e2 e3 => ?_
  rw [hsl] at e1 ⊢
  refine h p e s m args below meth c0 H' _ ls hC (hR.shp hq ?_ e2 e3) (hS.put e2 e3 (show kB K ≤ kB K + a by omega)) hL (okS_t (okS_t hSt))
  rw [cE_o hc13]
  have es : ((List.range n).map (fun j => cv K (av (fty c j) (rs.getD j none) (V a j)))).set k (.ref (kB K + b)) = (List.range n).map (fun j => cv K (av (fty c j) ((rs.set k (some b)).getD j none) (V a j))) := by
    refine rng_set ?_ (fun j hj => ?_)
    · rw [List.getD_eq_getElem?_getD, List.getElem?_set_self hl, av_2 hi]
      rfl
    · rw [List.getD_eq_getElem?_getD, List.getD_eq_getElem?_getD, List.getElem?_set_ne (Ne.symm hj)]
  rw [← es]
  exact ⟨_, hcl, t_OB.to (V := updV (vp_V _) k (.ref (kB K + b))) ⟨_, e1, q2, q3, t_set q4 hap hkN _⟩ (fun j _ => vp_updV_set (by simpa using hk) _ j)⟩
end WPN
