/-! ===== the row of a table of ints ===== -/
theorem Rel.app {K : KK} {sh qs : List SC} {V : Mem} {H H1 : Heap} (hR : Rel K sh V H) (hE : kE K = true) (z : H1.size = H.size + qs.length) (o : ∀ p, p < H.size → H1[p]? = H[p]?) (he : ∀ j q, qs[j]? = some q → va_at (kD K) vwCl (kB K + (sh.length + j), cE K q (V (sh.length + j))) H1) (hx : ∀ j q k, qs[j]? = some q → k < q.2.1 → V (sh.length + j) k = 0) : Rel K (sh ++ qs) V H1 := by
  refine ⟨fun k q hk => ?_, fun a q2 k ha hk => ?_, fun _ => ?_⟩
  · have hl : k < (sh ++ qs).length := by
      have := (List.getElem?_eq_some_iff.mp hk).1
      rw [wsO_len] at this
      exact this
    have e : (sh ++ qs)[k]? = some (sh ++ qs)[k] := List.getElem?_eq_getElem hl
    rw [wsO_at e] at hk
    by_cases c : k < sh.length
    · rw [List.getElem?_append_left c] at e
      cases hk
      have h1 := hR.1 k _ (wsO_at e)
      exact h1.kept (o _ h1.lt)
    · rw [List.getElem?_append_right (by omega)] at e
      cases hk
      have h1 := he (k - sh.length) _ e
      rw [show sh.length + (k - sh.length) = k by omega] at h1
      exact h1
  · by_cases c : a < sh.length
    · rw [List.getElem?_append_left c] at ha
      exact hR.2.1 a q2 k ha hk
    · rw [List.getElem?_append_right (by omega)] at ha
      have := hx _ _ k ha hk
      rw [show sh.length + (a - sh.length) = a by omega] at this
      rw [this]
      exact okc0 _ _
  · rw [z, hR.2.2 hE, List.length_append]
    omega
/-- arrays of arrays are known -/
def va_AOA (U : State) : Prop := (Cond.arrayOver (.array .int)).before #[] U = true
theorem va_AOA.moved {u U : State} (hvm : u.vm.Alike U.vm) (h : va_AOA u) : va_AOA U := by
  have ⟨q, c, k, h1, h2, h3, h4, h5⟩ := arrayOverA_spec h
  have ⟨k', g1, g2⟩ := hvm.2.2 _ _ h3
  have w : k'.kind = .array q (.array .int) := g2 ▸ h4
  rw [← hvm.findIdx?_eq _ (fun _ => rfl)] at h2
  rw [← hvm.findClass] at h1 h5
  show (Cond.arrayOver (.array .int)).holds #[] U none U [] = true
  simp [Cond.holds, Cond.value, h1, h5]
  refine (congrArg (fun o => Option.bind o _) h2).trans ?_
  simp [g1, w]
section WPT
variable {K : KK} {d : Nat} {y : MI} {mc ms pc : Nat} {L : List (Option AV)} {S : List AV} {cl sl : Nat} {sh : List SC} {V : Mem} {Q : Option AV → List SC → Mem → Prop}
theorem wp_multi {idx n k : Nat} (hd : decode y.2.1 pc = .ok (.multianewarray idx 2, 4)) (hn : Cond.classLink y.1.cls idx "[[I" ∈ tb) (ha : Cond.arrayClass .int ∈ tb) (hO : ∀ U H, kZ K U H → va_AOA U) (hE : kE K = true) (hx : n ≤ 1000 ∧ k ≤ 1000) (hm : cl + 1 + n ≤ mc ∧ sl + n + n * k ≤ ms) (hV : ∀ b, sh.length ≤ b → ∀ j, V b j = 0) (h : Wp K d y mc ms (pc + 4) L (vR sh.length :: S) (cl + 1 + n) (sl + n + n * k) (sh ++ ((20, n, (List.range n).map (fun j => some (sh.length + 1 + j))) :: List.replicate n (14, k, []))) V Q) : Wp K d y mc ms pc L (vI (k : Int) :: vI (n : Int) :: S) cl sl sh V Q := by
  intro p e s m args below meth c0 H locs ls hC hR hS hL hSt
  have hts := hC.2.2.2.2.2.1
  have hK := hC.2.2.2.2.2.2.2.1
  have hkz := hC.2.2.2.2.2.2.2.2.2.2.2.2.2
  have hz := hR.2.2 hE
  have rk : r32 (k : Int) := okS_h hSt
  have rn : r32 (n : Int) := okS_h (okS_t hSt)
  have nn : ∀ x : Nat, r32 (x : Int) → ¬ Int32.ofInt (x : Int) < 0 := fun x rx q => by rw [i32_0, i32_lt rx r32_0] at q; omega
  have cn : (Int32.ofInt (n : Int)).toNatClampNeg = n := by rw [i32_cl rn]; omega
  have ck : (Int32.ofInt (k : Int)).toNatClampNeg = k := by rw [i32_cl rk]; omega
  refine mu_W hC.1 hC.2.1 hC.2.2.2.2.1 (hts _ hn) (hO _ _ hkz) (hts _ ha) hd (nn n rn) (nn k rk) (by rw [cn]; exact hx.1) (by rw [ck]; exact hx.2) (by rw [cn]; show _ ≤ mc; omega) (by rw [cn, ck]; show _ ≤ ms; omega) fun H1 cA cI g1 g2 g3 g4 g5 g6 => ?_
  rw [cn] at g3 g4 g6 ⊢
  rw [ck] at g6 ⊢
  have eA : cA = kY K 20 := Option.some.inj (g1.symm.trans (hK.2 7 _ rfl).2)
  have eI : cI = kY K 14 := Option.some.inj (g2.symm.trans (hK.2 1 _ rfl).2)
  subst eA; subst eI
  have hB := hC.2.2.2.2.2.2.2.2.1
  have e0 : H.size = kB K + sh.length := hz
  rw [show (Value.ref H.size : Value) = cv K (vR sh.length) from by rw [e0]; rfl]
  refine h p e s m args below meth c0 H1 _ ls hC (hR.app hE ?_ g5 (fun j q hq => ?_) (fun j q i _ _ => hV _ (by omega) i)) ⟨Nat.le_trans hS.1 (by omega), fun x h1 h2 => (g5 x (Nat.lt_of_lt_of_le h1 hS.1)).trans (hS.2.1 x h1 h2), fun q hq => ?_⟩ hL (okS_c trivial (okS_t (okS_t hSt)))
  · rw [g3, List.length_cons, List.length_replicate]; omega
  · cases j with
    | zero =>
      cases hq
      show H1[kB K + (sh.length + 0)]? = some (arrV (kY K 20) n (fun j => va_rf ((((List.range n).map (fun j => some (sh.length + 1 + j))).getD j none).map (fun a => kB K + a))))
      rw [Nat.add_zero, ← e0, g4]
      unfold muO arrV
      congr 3
      funext j
      have hj := j.2
      dsimp only
      rw [if_pos hj, List.getD_eq_getElem?_getD, List.getElem?_map, List.getElem?_range hj, e0]
      show Value.ref _ = Value.ref (kB K + (sh.length + 1 + j.val))
      exact congrArg Value.ref (show kB K + sh.length + 1 + j.val = kB K + (sh.length + 1 + j.val) by omega)
    | succ j =>
      have hj : j < n := by
        have := (List.getElem?_eq_some_iff.mp hq).1
        rw [List.length_cons, List.length_replicate] at this
        omega
      rw [List.getElem?_cons_succ, List.getElem?_replicate, if_pos hj] at hq
      cases hq
      show H1[kB K + (sh.length + (j + 1))]? = some (arrV (kY K 14) k (fun i => .int (Int32.ofInt (V (sh.length + (j + 1)) i))))
      rw [show kB K + (sh.length + (j + 1)) = H.size + 1 + j by omega, g6 j hj]
      unfold muI
      rw [arrV_new]
      congr 2
      funext i
      rw [hV _ (by omega) i]
      rfl
  · rcases List.mem_append.mp hq with q1 | q1
    · exact hS.2.2 q q1
    · obtain ⟨j, -, rfl⟩ := List.mem_map.mp q1
      show kB K ≤ H.size
      omega
end WPT
