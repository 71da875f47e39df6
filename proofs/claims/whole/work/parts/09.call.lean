/-! ===== a method's start, and calls ===== -/
theorem tb_good {w : Cond} (h : w ∈ tb) : w ∈ tb ∧ ((w.onTables && w.keeps) = true ∨ ∃ ty, w = .arrayClass ty) := ⟨h, good_of_word (List.mem_filter.mp h).2⟩
def enF (v : AV) : List (Option AV) := if c1 v = true then [some v] else [some v, none]
def enL (n : Nat) (as : List AV) : List (Option AV) := as.flatMap enF ++ List.replicate (n - (as.flatMap enF).length) none
theorem enF_cat {K : KK} (v : AV) : (enF v).length = (if (cv K v).category = 2 then 2 else 1) := by
  rcases v with x | x | (_ | a) | u <;> rfl
theorem en_args (K : KK) (tl : List (Option AV)) (ht : ∀ (k : Nat) (v : AV), tl[k]? ≠ some (some v)) : ∀ (as : List AV) (i k : Nat) (v : AV), (as.flatMap enF ++ tl)[k]? = some (some v) → (i + k, cv K v) ∈ lv_args i (as.map (cv K)) ∧ v ∈ as
  | [], i, k, v, h => absurd h (ht k v)
  | u :: as, i, k, v, h => by
    have hl : (enF u).length = (if (cv K u).category = 2 then 2 else 1) := enF_cat u
    have hh : ((enF u ++ (as.flatMap enF ++ tl)))[k]? = some (some v) := by
      rw [← List.append_assoc]; exact h
    by_cases hk : k < (enF u).length
    · rw [List.getElem?_append_left hk] at hh
      have hk0 : k = 0 ∧ v = u := by
        rcases u with x | x | (_ | a) | z
        · cases k with
          | zero => cases hh; exact ⟨rfl, rfl⟩
          | succ k => cases hh
        · match k, hh with
          | 0, hh => cases hh; exact ⟨rfl, rfl⟩
          | 1, hh => cases hh
          | k + 2, hh => cases hh
        · cases k with
          | zero => cases hh; exact ⟨rfl, rfl⟩
          | succ k => cases hh
        · cases k with
          | zero => cases hh; exact ⟨rfl, rfl⟩
          | succ k => cases hh
        · cases k with
          | zero => cases hh; exact ⟨rfl, rfl⟩
          | succ k => cases hh
      obtain ⟨rfl, rfl⟩ := hk0
      exact ⟨List.mem_cons_self, List.mem_cons_self⟩
    · rw [List.getElem?_append_right (by omega)] at hh
      obtain ⟨h1, h2⟩ := en_args K tl ht as (if (cv K u).category = 2 then i + 2 else i + 1) (k - (enF u).length) v hh
      refine ⟨List.mem_cons_of_mem _ ?_, List.mem_cons_of_mem _ h2⟩
      have e : (if (cv K u).category = 2 then i + 2 else i + 1) + (k - (enF u).length) = i + k := by
        split <;> rename_i hc <;> (simp only [hc, if_true, if_false] at hl; omega)
      rw [e] at h1
      exact h1
theorem en_len (K : KK) : ∀ as : List AV, (lg_sl (as.map (cv K))).length = (as.flatMap enF).length
  | [] => rfl
  | u :: as => by
    have h1 := en_len K as
    have h2 : (enF u).length = (if (cv K u).category = 2 then 2 else 1) := enF_cat u
    unfold lg_sl at h1 ⊢
    rw [List.map_cons, List.flatMap_cons, List.flatMap_cons, List.length_append, List.length_append, h1, h2]
    split <;> rfl
theorem enL_P {K : KK} {as : List AV} {n : Nat} (hok : ∀ v ∈ as, okv v) (hn : (as.flatMap enF).length ≤ n) : lvP K ((lg_sl (as.map (cv K)) ++ List.replicate (n - (lg_sl (as.map (cv K))).length) Slot.unset).toArray) n (enL n as) := by
  have h := lv_entry (as.map (cv K)) (n := n) (by rw [en_len]; exact hn)
  refine ⟨h.1, h.2.1, fun k v hk => ?_⟩
  obtain ⟨h1, h2⟩ := en_args K _ (fun k v q => by
    rw [List.getElem?_replicate] at q
    split at q <;> cases q) as 0 k v hk
  rw [Nat.zero_add] at h1
  exact ⟨h.2.2 _ h1, hok v h2⟩
theorem Mt.of {K : KK} {d : Nat} {y : MI} {mc ms : Nat} {as : List AV} {sh : List SC} {V : Mem} {Q : Option AV → List SC → Mem → Prop} (hy : plainName y.1.cls = true) (hn : (as.flatMap enF).length ≤ y.2.2.1) (h : Wp K d y mc ms 0 (enL y.2.2.1 as) [] 0 0 sh V Q) : Mt K d y mc ms as sh V Q := by
  refine Met.ofW (cc := y.2.1) (maxL := y.2.2.1) (ret := y.2.2.2) hy rfl ?_
  intro p e s m args below meth c s₁ B hml hv
  obtain ⟨rfl, hok, hR, hK, hB, hX, hlt, hO⟩ := hv
  have hts := atoms_spec (ws := Cond.code y.1 y.2.1 y.2.2.1 y.2.2.2 :: tb) B.pre
  rw [lg_entry_eq]
  exact h p e s m _ below meth c s.heap [] _ ⟨B.exec, B.bytes, B.returns, hml, findClass_of_methodNamed B.named, fun w hw => hts w (List.mem_cons_of_mem _ hw), B.notSynchronized, hK, hB, ⟨hX, hlt⟩, (name_of_methodNamed B.named B.method).1, hO⟩ hR va_S.rf (enL_P hok hn) (fun v h => by cases h)
/-- more is asked for less -/
theorem Wp.imp {K : KK} {d : Nat} {y : MI} {mc ms pc : Nat} {L : List (Option AV)} {S : List AV} {cl sl : Nat} {sh : List SC} {V : Mem} {Q Q2 : Option AV → List SC → Mem → Prop} (h : Wp K d y mc ms pc L S cl sl sh V Q) (hq : ∀ r sh' V', Q r sh' V' → Q2 r sh' V') : Wp K d y mc ms pc L S cl sl sh V Q2 := by
  intro p e s m args below meth c H locs ls hC hR hS hL hV T hT X
  obtain ⟨t, a1, o, b1, b2, ⟨⟨r, sh', V', c1, c2, c3, c4⟩, c5⟩, b4⟩ := h p e s m args below meth c H locs ls hC hR hS hL hV T hT X
  exact ⟨t, a1, o, b1, b2, ⟨⟨r, sh', V', c1, c2, c3, hq _ _ _ c4⟩, c5⟩, b4⟩
theorem Mt.imp {K : KK} {d : Nat} {y : MI} {mc ms : Nat} {as : List AV} {sh : List SC} {V : Mem} {Q Q2 : Option AV → List SC → Mem → Prop} (h : Mt K d y mc ms as sh V Q) (hq : ∀ r sh' V', Q r sh' V' → Q2 r sh' V') : Mt K d y mc ms as sh V Q2 := by
  intro p e ha hc hk s m args below hf happ hP hT
  obtain ⟨k, o, h1, h2, h3, ⟨⟨r, sh', V', c1, c2, c3, c4⟩, c5⟩, h4⟩ := h p e ha hc hk s m args below hf happ hP hT
  exact ⟨k, o, h1, h2, h3, ⟨⟨r, sh', V', c1, c2, c3, hq _ _ _ c4⟩, c5⟩, h4⟩
theorem PcO.blind {K : KK} {as : List AV} {sh : List SC} {V : Mem} : FrameBlind (PcO K as sh V) := by
  intro a U g mk q
  obtain ⟨q0, q1, q2, q3, q4, q5, q6, q7, q8, q9⟩ := q
  exact ⟨q0, q1, q2, va_K.moved (u := U) (U := U.calling g mk a) (Vm.Alike.refl U.vm) q3, q4, va_X.moved (u := U) (U := U.calling g mk a) (Vm.Alike.refl U.vm) q5, q6, q7.same (U := U.calling g mk a) rfl, q8, q8.2.1 U (U.calling g mk a) _ rfl q9⟩
/-- y: n arguments (but for its object), its code in the tables -/
def MOK (y : MI) (n : Nat) : Prop := (y.1.cls ≠ "java/lang/invoke/MethodHandle" ∧ y.1.cls ≠ "java/lang/invoke/VarHandle" ∧ (parseMethodDescriptor y.1.desc).map (fun d => d.parameters.length) = some n) ∧ Cond.code y.1 y.2.1 y.2.2.1 y.2.2.2 ∈ tb ∧ Cond.initialized y.1.cls ∈ tb ∧ y.2.2.1 ≤ 21
def LKV (own : String) (idx : Nat) (y : MI) (c n : Nat) : Prop := MOK y n ∧ Cond.methodLink own idx y.1 ∈ tb ∧ Cond.instanceMethod y.1 ∈ tb ∧ Cond.selects y.1.cls y.1 y.1 ∈ tb ∧ c < 13 ∧ ∃ (T : u_T) (N : Nat), vwCl[c]? = some (y.1.cls, T, N)
def LKS (own : String) (idx : Nat) (y : MI) (n : Nat) : Prop := MOK y n ∧ (Cond.methodLink own idx y.1 ∈ tb ∨ ∃ host, (own, idx, y.1, host) ∈ nests) ∧ Cond.static y.1 ∈ tb
def LKI (own : String) (idx : Nat) (y : MI) (n : Nat) : Prop := MOK y n ∧ y.2.2.2 = none ∧ (Cond.methodLink own idx y.1 ∈ tb ∨ ∃ host, (own, idx, y.1, host) ∈ nests) ∧ Cond.instanceMethod y.1 ∈ tb ∧ y.1.name = "<init>"
def cats (S : List AV) : Nat := (S.map (fun v => if c1 v = true then 1 else 2)).sum
theorem cats_cv (K : KK) : ∀ S : List AV, ((S.map (cv K)).map fun v => v.category).sum = cats S
  | [] => rfl
  | v :: S => by
    have h := cats_cv K S
    have h2 : (cv K v).category = (if c1 v = true then 1 else 2) := by rcases v with x | x | (_ | a) | u <;> rfl
    show (cv K v).category + _ = _ + _
    rw [h2]
    exact congrArg _ h
section WPC
variable {K : KK} {d : Nat} {y : MI} {mc ms pc : Nat} {L : List (Option AV)} {S : List AV} {cl sl : Nat} {sh : List SC} {V : Mem} {Q : Option AV → List SC → Mem → Prop}
variable {p : Program} {e : Env} {s : State} {m : MethodId} {args : Array Value} {below : List Frame} {meth : Method} {c : Code} {H : Heap} {locs : List Loc} {R : Room} {Qw : State → Prop}
theorem wp_run {Q' : Option AV → List SC → Mem → Prop} {rest : List AV} {st0 : List Value} {ls : Array Slot} {a : Array Value} {mc' ms' : Nat} (hr : va_Run p (kL K) e R s m args below meth c H locs cl sl mc' ms' (F0 m pc ls st0) (rest.map (cv K)) (QcO K Q' a) (kA K)) (hS : va_S (kA K) s.heap H locs)
    (kk : ∀ (r : Option AV) (sh' : List SC) (V' : Mem), Q' r sh' V' → (∀ v, r = some v → okv v) → ∀ (H1 : Heap) (locs1 : List Loc), Rel K sh' V' H1 → va_S (kA K) s.heap H1 locs1 → W p (kL K) e R s m args below meth c H1 locs1 (cl + mc') (sl + ms') Qw (F0 m (pc + 3) ls ((r.toList ++ rest).map (cv K)))) : W p (kL K) e R s m args below meth c H locs cl sl Qw (F0 m pc ls st0) := by
  intro T hT X
  obtain ⟨v, st₀, t, T', L, h0, X', hL, e1, e2, ⟨⟨r, sh', V', hv, hok, hRel, hQ⟩, hz, hk⟩, st⟩ := hr T hT X
  cases hv
  rw [h0] at hz hk
  obtain ⟨t2, a1, b1⟩ := kk r sh' V' hQ hok T'.heap (locs ++ L) (by rw [e1]; exact hRel)
    ⟨Nat.le_trans hS.1 (by rw [e1]; exact hz), fun q h1 h2 => by rw [e1, hk q (Nat.lt_of_lt_of_le h1 hS.1) h2]; exact hS.2.1 q h1 h2, fun q hq => by
      rcases List.mem_append.mp hq with h | h
      · exact hS.2.2 q h
      · exact hL q h⟩ T' rfl X'
  refine ⟨t2, st t2 ?_, b1⟩
  have e3 : (r.map (cv K)).toList ++ rest.map (cv K) = (r.toList ++ rest).map (cv K) := by cases r <;> rfl
  rw [e3]
  exact a1
theorem wp_pre {ls : Array Slot} {as : List AV} (hC : Cx K y p s m args meth c) (hR : Rel K sh V H) (hS : va_S (kA K) s.heap H locs) (hok : ∀ v ∈ as, okv v) : ∀ U : State, U.heap = H → s.WarmedH U.vm → PcO K as sh V (as.map (cv K)).toArray U := by
  intro U hU hW
  have hB := hC.2.2.2.2.2.2.2.2.1
  obtain ⟨hX, hl⟩ := hC.2.2.2.2.2.2.2.2.2.1
  refine ⟨rfl, hok, by rw [hU]; exact hR, va_K.moved hW.alike hC.2.2.2.2.2.2.2.1, by rw [hU]; exact Nat.le_trans hB hS.1, ?_, hl, ?_⟩
  · refine va_X.moved hW.alike ?_
    rw [hU]
    exact hX.kept (hS.2.1 _ (by omega) (show ¬ kB K ≤ kS K by omega))
  · obtain ⟨o1, o2, o3⟩ := hC.2.2.2.2.2.2.2.2.2.2.2
    refine ⟨o1.warm hW, o2, ?_⟩
    rw [hU]
    exact o2.2.2 U _ _ (fun q hq => hS.2.1 q (Nat.lt_of_lt_of_le hq hB) (Nat.not_le.mpr hq)) (o2.1 s U _ hW o3)
theorem wp_callV {idx b cc n nn : Nat} {y' : MI} {as : List AV} {rs : List (Option Nat)} {d' mc' ms' : Nat} {Q' : Option AV → List SC → Mem → Prop} {S0 : List AV} (hd : decode y.2.1 pc = .ok (.invokevirtual idx, 3)) (hl : LKV y.1.cls idx y' cc n) (hM : Mt K d' y' mc' ms' (vR b :: as) sh V Q') (hdd : d' < d) (hq : sh[b]? = some (cc, nn, rs)) (hn : as.length = n) (hS0 : S0 = as.reverse ++ vR b :: S) (hW : cats S ≤ 8) (hm : cl + mc' ≤ mc ∧ sl + ms' ≤ ms)
    (h : ∀ (r : Option AV) (sh' : List SC) (V' : Mem), Q' r sh' V' → Wp K d y mc ms (pc + 3) L (r.toList ++ S) (cl + mc') (sl + ms') sh' V' Q) : Wp K d y mc ms pc L S0 cl sl sh V Q := by
  intro p e s m args below meth c H locs ls hC hR hS hL hV
  subst hS0
  obtain ⟨⟨hy, hcode, hini, hmx⟩, hlk, hin, hsel, hc13, T, N, hcl⟩ := hl
  have hts := hC.2.2.2.2.2.1
  have hokb : ∀ v ∈ as, okv v := fun v hv => hV v (List.mem_append_left _ (List.mem_reverse.mpr hv))
  have hokS : ∀ v ∈ S, okv v := fun v hv => hV v (List.mem_append_right _ (List.mem_cons_of_mem _ hv))
  have hG : GoodIn tb (Cond.code y'.1 y'.2.1 y'.2.2.1 y'.2.2.2 :: tb) := fun w hw => (List.mem_cons.mp hw).elim (fun q => q ▸ tb_good hcode) tb_good
  have cw : CallW (rmO d mc ms) s args y.1.cls y'.1.cls idx y'.1 y'.2.1 y'.2.2.1 y'.2.2.2 (Cond.code y'.1 y'.2.1 y'.2.2.1 y'.2.2.2 :: tb) (rmO d' mc' ms') mc' ms' n :=
    ⟨callB_of n hts hG rfl rfl rfl (hts _ hini) (hts _ hlk) hy ⟨by show d' + 1 ≤ d; omega, by show 8 + (y'.2.2.1 + 11) + 40 * d' ≤ 40 * d; omega⟩, hts _ hin, hts _ hsel⟩
  have he := wsO_at (K := K) (V := V) hq
  rw [cE_o hc13] at he
  have run := va_runV (R := rmO d mc ms) (below := below) (meth := meth) (e := e) (locs := locs) (cells := cl) (slots := sl) (H := H) (b := kB K + b) (As := as.map (cv K)) (rest := S.map (cv K)) (g := F0 m pc ls ((as.reverse ++ vR b :: S).map (cv K))) ⟨hC.1, hC.2.1, hC.2.2.2.1, hC.2.2.2.2.1, hts⟩ hM cw ⟨PcO.blind, va_recv hC.2.2.2.2.2.2.2.1 hR.1 hcl he, wp_pre (ls := ls) (as := vR b :: as) hC hR hS (okS_c trivial hokb)⟩ rfl (by rw [List.length_map]; exact hn) hL.1 (by show (as.reverse ++ vR b :: S).map (cv K) = _; rw [List.map_append, List.map_reverse]; rfl) (lv_room (by rw [cats_cv]; exact hW)) hd hm
  refine wp_run run hS (fun r sh' V' hQ hok H1 locs1 hR1 hS1 => ?_)
  exact h r sh' V' hQ p e s m args below meth c H1 locs1 ls hC hR1 hS1 hL (fun v hv => (List.mem_append.mp hv).elim (fun q => hok v (Option.mem_toList.mp q)) (hokS v))
theorem wp_callS {idx n : Nat} {y' : MI} {as : List AV} {d' mc' ms' : Nat} {Q' : Option AV → List SC → Mem → Prop} {S0 : List AV} (hd : decode y.2.1 pc = .ok (.invokestatic idx, 3)) (hl : LKS y.1.cls idx y' n) (hM : Mt K d' y' mc' ms' as sh V Q') (hdd : d' < d) (hn : as.length = n) (hS0 : S0 = as.reverse ++ S) (hW : cats S ≤ 8) (hm : cl + mc' ≤ mc ∧ sl + ms' ≤ ms)
    (h : ∀ (r : Option AV) (sh' : List SC) (V' : Mem), Q' r sh' V' → Wp K d y mc ms (pc + 3) L (r.toList ++ S) (cl + mc') (sl + ms') sh' V' Q) : Wp K d y mc ms pc L S0 cl sl sh V Q := by
  intro p e s m args below meth c H locs ls hC hR hS hL hV
  subst hS0
  obtain ⟨⟨hy, hcode, hini, hmx⟩, hlk, hst⟩ := hl
  have hts := hC.2.2.2.2.2.1
  have hokb : ∀ v ∈ as, okv v := fun v hv => hV v (List.mem_append_left _ (List.mem_reverse.mpr hv))
  have hokS : ∀ v ∈ S, okv v := fun v hv => hV v (List.mem_append_right _ hv)
  have hG : GoodIn tb (Cond.code y'.1 y'.2.1 y'.2.2.1 y'.2.2.2 :: tb) := fun w hw => (List.mem_cons.mp hw).elim (fun q => q ▸ tb_good hcode) tb_good
  have hrm : (rmO d' mc' ms').frames + 1 ≤ (rmO d mc ms).frames ∧ 8 + (y'.2.2.1 + 11) + (rmO d' mc' ms').locals ≤ (rmO d mc ms).locals := ⟨by show d' + 1 ≤ d; omega, by show 8 + (y'.2.2.1 + 11) + 40 * d' ≤ 40 * d; omega⟩
  have run : va_Run p (kL K) e (rmO d mc ms) s m args below meth c H locs cl sl mc' ms' (F0 m pc ls ((as.reverse ++ S).map (cv K))) (S.map (cv K)) (QcO K Q' (as.map (cv K)).toArray) (kA K) := by
    rcases hlk with hlk | ⟨host, hlk⟩
    · exact va_runS (n := n) (own := y.1.cls) ⟨hC.1, hC.2.1, hC.2.2.2.1, hC.2.2.2.2.1, hts⟩ hM ⟨callB_of n hts hG rfl rfl rfl (hts _ hini) (hts _ hlk) hy hrm, hts _ hst⟩ ⟨PcO.blind, wp_pre (ls := ls) hC hR hS hokb⟩ rfl (by rw [List.length_map]; exact hn) hL.1 (by show (as.reverse ++ S).map (cv K) = _; rw [List.map_append, List.map_reverse]) (lv_room (by rw [cats_cv]; exact hW)) hd hm
    · exact va_runSN (n := n) (own := y.1.cls) ⟨hC.1, hC.2.1, hC.2.2.2.1, hC.2.2.2.2.1, hts⟩ hM ⟨va_cnB n hts hG rfl rfl rfl (hC.2.2.2.2.2.2.2.2.2.2.2.1 _ hlk) (hts _ hini) hy hrm, hts _ hst, trivial⟩ ⟨PcO.blind, wp_pre (ls := ls) hC hR hS hokb⟩ rfl (by rw [List.length_map]; exact hn) hL.1 (by show (as.reverse ++ S).map (cv K) = _; rw [List.map_append, List.map_reverse]) (lv_room (by rw [cats_cv]; exact hW)) hd hm
  refine wp_run run hS (fun r sh' V' hQ hok H1 locs1 hR1 hS1 => ?_)
  exact h r sh' V' hQ p e s m args below meth c H1 locs1 ls hC hR1 hS1 hL (fun v hv => (List.mem_append.mp hv).elim (fun q => hok v (Option.mem_toList.mp q)) (hokS v))
theorem wp_callI {idx b n : Nat} {y' : MI} {as : List AV} {d' mc' ms' : Nat} {Q' : Option AV → List SC → Mem → Prop} {S0 : List AV} (hd : decode y.2.1 pc = .ok (.invokespecial idx, 3)) (hl : LKI y.1.cls idx y' n) (hM : Mt K d' y' mc' ms' (vR b :: as) sh V Q') (hdd : d' < d) (hn : as.length = n) (hS0 : S0 = as.reverse ++ vR b :: S) (hW : cats S ≤ 8) (hm : cl + mc' ≤ mc ∧ sl + ms' ≤ ms)
    (h : ∀ (r : Option AV) (sh' : List SC) (V' : Mem), Q' r sh' V' → Wp K d y mc ms (pc + 3) L (r.toList ++ S) (cl + mc') (sl + ms') sh' V' Q) : Wp K d y mc ms pc L S0 cl sl sh V Q := by
  intro p e s m args below meth c H locs ls hC hR hS hL hV
  subst hS0
  obtain ⟨⟨hy, hcode, hini, hmx⟩, hret, hlk, hin, hnm⟩ := hl
  have hts := hC.2.2.2.2.2.1
  have hokb : ∀ v ∈ as, okv v := fun v hv => hV v (List.mem_append_left _ (List.mem_reverse.mpr hv))
  have hokS : ∀ v ∈ S, okv v := fun v hv => hV v (List.mem_append_right _ (List.mem_cons_of_mem _ hv))
  have hG : GoodIn tb (Cond.code y'.1 y'.2.1 y'.2.2.1 y'.2.2.2 :: tb) := fun w hw => (List.mem_cons.mp hw).elim (fun q => q ▸ tb_good hcode) tb_good
  unfold Mt at hM
  rw [hret] at hG hM
  have hrm : (rmO d' mc' ms').frames + 1 ≤ (rmO d mc ms).frames ∧ 8 + (y'.2.2.1 + 11) + (rmO d' mc' ms').locals ≤ (rmO d mc ms).locals := ⟨by show d' + 1 ≤ d; omega, by show 8 + (y'.2.2.1 + 11) + 40 * d' ≤ 40 * d; omega⟩
  have run : va_Run p (kL K) e (rmO d mc ms) s m args below meth c H locs cl sl mc' ms' (F0 m pc ls ((as.reverse ++ vR b :: S).map (cv K))) (S.map (cv K)) (QcO K Q' ((vR b :: as).map (cv K)).toArray) (kA K) := by
    rcases hlk with hlk | ⟨host, hlk⟩
    · exact va_runI (n := n) (own := y.1.cls) (b := kB K + b) (As := as.map (cv K)) ⟨hC.1, hC.2.1, hC.2.2.2.1, hC.2.2.2.2.1, hts⟩ hM ⟨callB_of n hts hG rfl rfl rfl (hts _ hini) (hts _ hlk) hy hrm, hnm, hts _ hin⟩ ⟨PcO.blind, wp_pre (ls := ls) (as := vR b :: as) hC hR hS (okS_c trivial hokb)⟩ rfl (by rw [List.length_map]; exact hn) hL.1 (by show (as.reverse ++ vR b :: S).map (cv K) = _; rw [List.map_append, List.map_reverse]; rfl) (lv_room (by rw [cats_cv]; exact hW)) hd hm
    · exact va_runIN (n := n) (own := y.1.cls) (b := kB K + b) (As := as.map (cv K)) ⟨hC.1, hC.2.1, hC.2.2.2.1, hC.2.2.2.2.1, hts⟩ hM ⟨va_cnB n hts hG rfl rfl rfl (hC.2.2.2.2.2.2.2.2.2.2.2.1 _ hlk) (hts _ hini) hy hrm, hnm, hts _ hin⟩ ⟨PcO.blind, wp_pre (ls := ls) (as := vR b :: as) hC hR hS (okS_c trivial hokb)⟩ rfl (by rw [List.length_map]; exact hn) hL.1 (by show (as.reverse ++ vR b :: S).map (cv K) = _; rw [List.map_append, List.map_reverse]; rfl) (lv_room (by rw [cats_cv]; exact hW)) hd hm
  refine wp_run run hS (fun r sh' V' hQ hok H1 locs1 hR1 hS1 => ?_)
  exact h r sh' V' hQ p e s m args below meth c H1 locs1 ls hC hR1 hS1 hL (fun v hv => (List.mem_append.mp hv).elim (fun q => hok v (Option.mem_toList.mp q)) (hokS v))
end WPC
