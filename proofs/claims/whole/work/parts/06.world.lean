/-! ===== the world of the small machine ===== -/
/-- launch, classes, slots, array classes, base, the script's cell, length and ints, is the heap's end the world's end, what else holds of the machine -/
abbrev KK : Type := Launch × (Nat → ClassId) × (Nat → Nat → Nat) × (Nat → ClassId) × Nat × Nat × Nat × (Nat → Int32) × Bool × (State → Heap → Prop)
abbrev kL (K : KK) : Launch := K.1
abbrev kC (K : KK) : Nat → ClassId := K.2.1
abbrev kI (K : KK) : Nat → Nat → Nat := K.2.2.1
abbrev kY (K : KK) : Nat → ClassId := K.2.2.2.1
abbrev kB (K : KK) : Nat := K.2.2.2.2.1
abbrev kS (K : KK) : Nat := K.2.2.2.2.2.1
abbrev kN (K : KK) : Nat := K.2.2.2.2.2.2.1
abbrev kX (K : KK) : Nat → Int32 := K.2.2.2.2.2.2.2.1
abbrev kE (K : KK) : Bool := K.2.2.2.2.2.2.2.2.1
abbrev kZ (K : KK) : State → Heap → Prop := K.2.2.2.2.2.2.2.2.2
abbrev kD (K : KK) : va_G := (kC K, kI K)
abbrev kA (K : KK) : Nat → Prop := fun q => kB K ≤ q
def cv (K : KK) (v : AV) : Value := match v with
  | .inl x => .int (Int32.ofInt x)
  | .inr (.inl x) => .long (Int64.ofInt x)
  | .inr (.inr (.inl none)) => .null
  | .inr (.inr (.inl (some a))) => .ref (kB K + a)
  | .inr (.inr (.inr _)) => .ref (kS K)
def av (ty : FieldType) (r : Option Nat) (x : Int) : AV := match ty with
  | .long => .inr (.inl x)
  | .object _ => .inr (.inr (.inl r))
  | .array _ => .inr (.inr (.inl r))
  | _ => .inl x
def fty (c k : Nat) : FieldType := match c with
  | 0 => tyX0 k
  | 1 => tyX1 k
  | 2 => tyX2 k
  | 3 => tyX3 k
  | 4 => tyX4 k
  | 5 => tyX5 k
  | 6 => tyX6 k
  | 7 => tyX7 k
  | 8 => tyX8 k
  | 9 => tyX9 k
  | 10 => tyX10 k
  | 11 => tyX11 k
  | _ => tyX12 k
/-- a cell as the kit's worlds have it -/
def cE (K : KK) (q : SC) (f : Nat → Int) : va_E :=
  if q.1 < 13 then .inr (q.1, (List.range q.2.1).map (fun k => cv K (av (fty q.1 k) (q.2.2.getD k none) (f k))))
  else if q.1 = 15 then .inl (kY K q.1, q.2.1, .inr (.inl (fun k => Int64.ofInt (f k))))
  else if q.1 < 17 then .inl (kY K q.1, q.2.1, .inl (fun k => Int32.ofInt (f k)))
  else .inl (kY K q.1, q.2.1, .inr (.inr (.inr (.inr (fun k => (q.2.2.getD k none).map (fun a => kB K + a))))))
def okc (q : SC) (k : Nat) (x : Int) : Prop := if q.1 < 13 then okv (av (fty q.1 k) none x) else if q.1 = 15 then r64 x else r32 x ∨ 17 ≤ q.1
def wsO (K : KK) (sh : List SC) (V : Mem) : va_W := (List.range sh.length).map (fun a => (kB K + a, cE K (sh.getD a (0, 0, [])) (V a)))
def tyL (K : KK) : List (ClassId × FieldType) := [(kY K 13, .char), (kY K 14, .int), (kY K 15, .long), (kY K 16, .boolean), (kY K 17, .object "ChainIndex$Braid"), (kY K 18, .object "ChainIndex$Row"), (kY K 19, .object "ChainIndex$Store"), (kY K 20, .array .int)]
def Rel (K : KK) (sh : List SC) (V : Mem) (H : Heap) : Prop := va_P (kD K) vwCl (wsO K sh V) H ∧ (∀ (a : Nat) (q : SC) (k : Nat), sh[a]? = some q → k < q.2.1 → okc q k (V a k)) ∧ (kE K = true → H.size = kB K + sh.length)
/-- what else holds stays: in a machine that has gone on, and where the old cells are as they were -/
def Zok (K : KK) : Prop := (∀ (s U : State) (H : Heap), s.WarmedH U.vm → kZ K s H → kZ K U H) ∧ (∀ (U U2 : State) (H : Heap), U2.vm = U.vm → kZ K U H → kZ K U2 H) ∧ (∀ (U : State) (H H1 : Heap), (∀ q : Nat, q < kB K → H1[q]? = H[q]?) → kZ K U H → kZ K U H1)
/-- the links between nest mates -/
def Nst (U : State) : Prop := ∀ q ∈ nests, va_Nw (.methodLinkNest q.1 q.2.1 q.2.2.1 q.2.2.2) U
theorem Nst.warm {s U : State} (hW : s.WarmedH U.vm) (h : Nst s) : Nst U := fun q hq => (h q hq).warmM hW
theorem Nst.same {u U : State} (hv : u.vm = U.vm) (h : Nst u) : Nst U := fun q hq => va_Nw.same rfl hv (h q hq)
def Oth (K : KK) (U : State) (H : Heap) : Prop := Nst U ∧ Zok K ∧ kZ K U H
/-- a method: its name, its bytes, its locals, what it returns -/
abbrev MI : Type := MethodName × ByteArray × Nat × Option FieldType
def Cx (K : KK) (y : MI) (p : Program) (s : State) (m : MethodId) (args : Array Value) (meth : Method) (c : Code) : Prop :=
  p.tables.exec = Jvm.exec ∧ c.code = y.2.1 ∧ meth.sig.returnType = y.2.2.2 ∧ c.maxLocals = y.2.2.1 ∧ s.vm.findClass y.1.cls = some m.cls ∧ (∀ w ∈ tb, w.before args s = true) ∧ meth.locks = false ∧ va_K (kD K) vwCl (tyL K) s ∧ kB K ≤ s.heap.size ∧ (va_X (kS K) (kN K) (kX K) s s.heap ∧ kS K < kB K) ∧ meth.name = y.1.name ∧ Oth K s s.heap
def lvP (K : KK) (ls : Array Slot) (n : Nat) (L : List (Option AV)) : Prop := ls.size = n ∧ lv_wf ls ∧ ∀ (k : Nat) (v : AV), L[k]? = some (some v) → ls[k]? = some (.val (cv K v)) ∧ okv v
def rmO (d mc ms : Nat) : Room := { frames := d, cells := mc, slots := ms, locals := 40 * d }
def QcO (K : KK) (Q : Option AV → List SC → Mem → Prop) : Array Value → State → Outcome → State → Prop := fun _ st oc t =>
  (∃ (r : Option AV) (sh' : List SC) (V' : Mem), oc = .returned (r.map (cv K)) ∧ (∀ v, r = some v → okv v) ∧ Rel K sh' V' t.heap ∧ Q r sh' V') ∧ va_F (kA K) st t
def PcO (K : KK) (as : List AV) (sh : List SC) (V : Mem) : Array Value → State → Prop := fun v U =>
  v = (as.map (cv K)).toArray ∧ (∀ v ∈ as, okv v) ∧ Rel K sh V U.heap ∧ va_K (kD K) vwCl (tyL K) U ∧ kB K ≤ U.heap.size ∧ va_X (kS K) (kN K) (kX K) U U.heap ∧ kS K < kB K ∧ Oth K U U.heap
/-- the method y, at pc with locals L and stack S over the world (sh, V): it returns, with Q; d: the frames that it may use; mc, ms: what it may make, cl, sl: what it has made -/
def Wp (K : KK) (d : Nat) (y : MI) (mc ms pc : Nat) (L : List (Option AV)) (S : List AV) (cl sl : Nat) (sh : List SC) (V : Mem) (Q : Option AV → List SC → Mem → Prop) : Prop :=
  ∀ (p : Program) (e : Env) (s : State) (m : MethodId) (args : Array Value) (below : List Frame) (meth : Method) (c : Code) (H : Heap) (locs : List Loc) (ls : Array Slot),
    Cx K y p s m args meth c → Rel K sh V H → va_S (kA K) s.heap H locs → lvP K ls y.2.2.1 L → (∀ v ∈ S, okv v) →
    W p (kL K) e (rmO d mc ms) s m args below meth c H locs cl sl (MQ below (QcO K Q) args s mc ms (kA K)) (F0 m pc ls (S.map (cv K)))
/-- a call of y with these arguments over (sh, V) -/
def Mt (K : KK) (d : Nat) (y : MI) (mc ms : Nat) (as : List AV) (sh : List SC) (V : Mem) (Q : Option AV → List SC → Mem → Prop) : Prop :=
  Met (kL K) y.1 (Cond.code y.1 y.2.1 y.2.2.1 y.2.2.2 :: tb) (rmO d mc ms) (PcO K as sh V) (QcO K Q) mc ms (kA K)
def upm (V : Mem) (a k : Nat) (x : Int) : Mem := fun b j => if b = a ∧ j = k then x else V b j
theorem upm_s (V : Mem) (a k : Nat) (x : Int) : upm V a k x a k = x := if_pos ⟨rfl, rfl⟩
theorem upm_a {V : Mem} {a k b j : Nat} {x : Int} (h : b ≠ a) : upm V a k x b j = V b j := if_neg (fun q => h q.1)
theorem upm_k {V : Mem} {a k b j : Nat} {x : Int} (h : j ≠ k) : upm V a k x b j = V b j := if_neg (fun q => h q.2)
/-! the world's places -/
theorem wsO_at {K : KK} {sh : List SC} {V : Mem} {a : Nat} {q : SC} (h : sh[a]? = some q) : (wsO K sh V)[a]? = some (kB K + a, cE K q (V a)) := by
  have hl : a < sh.length := (List.getElem?_eq_some_iff.mp h).1
  unfold wsO
  rw [List.getElem?_map, List.getElem?_range hl]
  simp only [Option.map_some, List.getD_eq_getElem?_getD, h, Option.getD_some]
theorem wsO_len (K : KK) (sh : List SC) (V : Mem) : (wsO K sh V).length = sh.length := by simp [wsO]
theorem wsO_D (K : KK) (sh : List SC) (V : Mem) : va_D (kA K) (wsO K sh V) := by
  have key : ∀ (i : Nat) (q : Nat × va_E), (wsO K sh V)[i]? = some q → q.1 = kB K + i := by
    intro i q h
    have hl := (List.getElem?_eq_some_iff.mp h).1
    rw [wsO_len] at hl
    unfold wsO at h
    rw [List.getElem?_map, List.getElem?_range hl] at h
    cases h
    rfl
  refine ⟨fun i j p q hi hj hpq => ?_, fun k q hk => ?_⟩
  · have h1 := key i p hi
    have h2 := key j q hj
    omega
  · show kB K ≤ q.1
    have := key k q hk
    omega
theorem wsO_set {K : KK} {sh : List SC} {V V' : Mem} {a : Nat} {q : SC} (h : sh[a]? = some q) (hV : ∀ b, b ≠ a → V' b = V b) : (wsO K sh V).set a (kB K + a, cE K q (V' a)) = wsO K sh V' := by
  have hl : a < sh.length := (List.getElem?_eq_some_iff.mp h).1
  apply List.ext_getElem?
  intro i
  by_cases hi : i = a
  · subst hi
    rw [List.getElem?_set_self (by rw [wsO_len]; exact hl), wsO_at h]
  · rw [List.getElem?_set_ne (Ne.symm hi)]
    by_cases hil : i < sh.length
    · have e : sh[i]? = some sh[i] := List.getElem?_eq_getElem hil
      rw [wsO_at e, wsO_at e, hV i hi]
    · rw [List.getElem?_eq_none (by rw [wsO_len]; omega), List.getElem?_eq_none (by rw [wsO_len]; omega)]
theorem upm_off {V : Mem} {a k : Nat} {x : Int} : ∀ b, b ≠ a → upm V a k x b = V b := fun b h => funext fun _ => upm_a h
theorem cE_o {K : KK} {c n : Nat} {rs : List (Option Nat)} {f : Nat → Int} (hc : c < 13) : cE K (c, n, rs) f = .inr (c, (List.range n).map (fun k => cv K (av (fty c k) (rs.getD k none) (f k)))) := if_pos hc
theorem cE_j {K : KK} {n : Nat} {rs : List (Option Nat)} {f : Nat → Int} : cE K (15, n, rs) f = .inl (kY K 15, n, .inr (.inl (fun k => Int64.ofInt (f k)))) := rfl
theorem cE_i {K : KK} {n : Nat} {rs : List (Option Nat)} {f : Nat → Int} : cE K (14, n, rs) f = .inl (kY K 14, n, .inl (fun k => Int32.ofInt (f k))) := rfl
theorem cE_c {K : KK} {n : Nat} {rs : List (Option Nat)} {f : Nat → Int} : cE K (13, n, rs) f = .inl (kY K 13, n, .inl (fun k => Int32.ofInt (f k))) := rfl
theorem cE_z {K : KK} {n : Nat} {rs : List (Option Nat)} {f : Nat → Int} : cE K (16, n, rs) f = .inl (kY K 16, n, .inl (fun k => Int32.ofInt (f k))) := rfl
theorem fs_at {K : KK} {c n k : Nat} {rs : List (Option Nat)} {f : Nat → Int} (hk : k < n) : ((List.range n).map (fun k => cv K (av (fty c k) (rs.getD k none) (f k))))[k]? = some (cv K (av (fty c k) (rs.getD k none) (f k))) := by
  rw [List.getElem?_map, List.getElem?_range hk]; rfl
theorem rng_set {α : Type} {n k : Nat} {f g : Nat → α} {v : α} (hv : g k = v) (h : ∀ j, j ≠ k → g j = f j) : ((List.range n).map f).set k v = (List.range n).map g := by
  apply List.ext_getElem?
  intro i
  by_cases hi : i = k
  · subst hi
    by_cases hl : i < n
    · rw [List.getElem?_set_self (by simpa using hl), List.getElem?_map, List.getElem?_range hl, ← hv]; rfl
    · rw [List.getElem?_eq_none (by simp; omega), List.getElem?_eq_none (by simp; omega)]
  · rw [List.getElem?_set_ne (Ne.symm hi), List.getElem?_map, List.getElem?_map]
    by_cases hl : i < n
    · rw [List.getElem?_range hl]; simp [h i hi]
    · rw [List.getElem?_eq_none (by simp; omega)]; rfl
/-! locals -/
def nlg (L : List (Option AV)) (i : Nat) : Bool := match i with
  | 0 => true
  | j + 1 => match L[j]? with
    | some (some (.inr (.inl _))) => false
    | _ => true
def al (K : KK) (L : List (Option AV)) : List (Nat × Value) := (List.range L.length).filterMap (fun k => (L.getD k none).map (fun v => (k, cv K v)))
theorem al_mem {K : KK} {L : List (Option AV)} {k : Nat} {v : AV} (h : L[k]? = some (some v)) : (k, cv K v) ∈ al K L := by
  unfold al
  refine List.mem_filterMap.mpr ⟨k, List.mem_range.mpr (List.getElem?_eq_some_iff.mp h).1, ?_⟩
  simp [List.getD_eq_getElem?_getD, h]
theorem al_of {K : KK} {L : List (Option AV)} {q : Nat × Value} (h : q ∈ al K L) : ∃ v, L[q.1]? = some (some v) ∧ q.2 = cv K v := by
  unfold al at h
  obtain ⟨k, hk, e⟩ := List.mem_filterMap.mp h
  have hl := List.mem_range.mp hk
  cases hx : L.getD k none with
  | none => rw [hx] at e; cases e
  | some v =>
    rw [hx] at e
    cases e
    refine ⟨v, ?_, rfl⟩
    rw [List.getD_eq_getElem?_getD, List.getElem?_eq_getElem hl] at hx
    rw [List.getElem?_eq_getElem hl]
    exact congrArg some hx
theorem lvP.has {K : KK} {ls : Array Slot} {n : Nat} {L : List (Option AV)} (h : lvP K ls n L) : lv_has ls n (al K L) := by
  refine ⟨h.1, h.2.1, fun q hq => ?_⟩
  obtain ⟨v, h1, h2⟩ := al_of hq
  rw [h2]
  exact (h.2.2 _ _ h1).1
theorem cv_cat (K : KK) (v : AV) : (cv K v).category = 2 ↔ ∃ x, v = .inr (.inl x) := by
  rcases v with x | x | (_ | a) | u <;> simp [cv, Value.category]
theorem lvP.st1 {K : KK} {ls ls' : Array Slot} {n i : Nat} {L : List (Option AV)} {v : AV} (h : lvP K ls n L) (hv : okv v) (hg : nlg L i = true) (h' : lv_has ls' n ((i, cv K v) :: (al K L).filter (fun q => !(q.1 == i) && !(q.1 + 1 == i && q.2.category == 2)))) : lvP K ls' n (L.set i (some v)) := by
  refine ⟨h'.1, h'.2.1, fun k x hk => ?_⟩
  by_cases hki : k = i
  · subst hki
    have hl : k < L.length := by
      have := (List.getElem?_eq_some_iff.mp hk).1
      simpa using this
    rw [List.getElem?_set_self hl] at hk
    cases hk
    exact ⟨h'.2.2 (k, cv K v) List.mem_cons_self, hv⟩
  · rw [List.getElem?_set_ne (Ne.symm hki)] at hk
    refine ⟨h'.2.2 (k, cv K x) (List.mem_cons_of_mem _ (List.mem_filter.mpr ⟨al_mem hk, ?_⟩)), (h.2.2 k x hk).2⟩
    have h1 : (k == i) = false := beq_false_of_ne hki
    have h2 : (k + 1 == i && (cv K x).category == 2) = false := by
      by_cases hk1 : k + 1 = i
      · subst hk1
        have h3 : ¬ (cv K x).category = 2 := by
          rw [cv_cat]
          rintro ⟨z, rfl⟩
          simp [nlg, hk] at hg
        simp [h3]
      · simp [hk1]
    show (!(k == i) && !(k + 1 == i && (cv K x).category == 2)) = true
    rw [h1, h2]; rfl
theorem lvP.st2 {K : KK} {ls ls' : Array Slot} {n i : Nat} {L : List (Option AV)} {v : AV} (h : lvP K ls n L) (hv : okv v) (hg : nlg L i = true) (h' : lv_has ls' n ((i, cv K v) :: (al K L).filter (fun q => !(q.1 == i) && (!(q.1 == i + 1) && !(q.1 + 1 == i && q.2.category == 2))))) : lvP K ls' n ((L.set i (some v)).set (i + 1) none) := by
  refine ⟨h'.1, h'.2.1, fun k x hk => ?_⟩
  by_cases hk2 : k = i + 1
  · subst hk2
    have hl : i + 1 < (L.set i (some v)).length := by
      have := (List.getElem?_eq_some_iff.mp hk).1
      simpa using this
    rw [List.getElem?_set_self hl] at hk
    cases hk
  · rw [List.getElem?_set_ne (Ne.symm hk2)] at hk
    by_cases hki : k = i
    · subst hki
      have hl : k < L.length := by
        have := (List.getElem?_eq_some_iff.mp hk).1
        simpa using this
      rw [List.getElem?_set_self hl] at hk
      cases hk
      exact ⟨h'.2.2 (k, cv K v) List.mem_cons_self, hv⟩
    · rw [List.getElem?_set_ne (Ne.symm hki)] at hk
      refine ⟨h'.2.2 (k, cv K x) (List.mem_cons_of_mem _ (List.mem_filter.mpr ⟨al_mem hk, ?_⟩)), (h.2.2 k x hk).2⟩
      have h1 : (k == i) = false := beq_false_of_ne hki
      have h1' : (k == i + 1) = false := beq_false_of_ne hk2
      have h2 : (k + 1 == i && (cv K x).category == 2) = false := by
        by_cases hk1 : k + 1 = i
        · subst hk1
          have h3 : ¬ (cv K x).category = 2 := by
            rw [cv_cat]
            rintro ⟨z, rfl⟩
            simp [nlg, hk] at hg
          simp [h3]
        · simp [hk1]
      show (!(k == i) && (!(k == i + 1) && !(k + 1 == i && (cv K x).category == 2))) = true
      rw [h1, h1', h2]; rfl
theorem lvP.lt {K : KK} {ls : Array Slot} {n i : Nat} {L : List (Option AV)} (h : lvP K ls n L) {v : AV} (hk : L[i]? = some (some v)) : i < n := by
  rw [← h.1]; exact lv_lt (h.2.2 i v hk).1
/-- fewer locals -/
def sbL : List (Option AV) → List (Option AV) → Prop
  | [], _ => True
  | none :: l, _ :: l' => sbL l l'
  | none :: l, [] => sbL l []
  | some v :: l, some v' :: l' => v = v' ∧ sbL l l'
  | some _ :: _, _ => False
theorem sbL_at : ∀ (l l' : List (Option AV)), sbL l l' → ∀ (k : Nat) (v : AV), l[k]? = some (some v) → l'[k]? = some (some v)
  | [], _, _, k, v, h => by simp at h
  | none :: l, x :: l', hs, k, v, h => by
    cases k with
    | zero => simp at h
    | succ k => simp only [List.getElem?_cons_succ] at h ⊢; exact sbL_at l l' hs k v h
  | none :: l, [], hs, k, v, h => by
    cases k with
    | zero => simp at h
    | succ k =>
      simp only [List.getElem?_cons_succ] at h
      have := sbL_at l [] hs k v h
      simp at this
  | some v0 :: l, some v' :: l', hs, k, v, h => by
    cases k with
    | zero => simp only [List.getElem?_cons_zero] at h ⊢; rw [← hs.1]; exact h
    | succ k => simp only [List.getElem?_cons_succ] at h ⊢; exact sbL_at l l' hs.2 k v h
  | some _ :: _, none :: _, hs, _, _, _ => hs.elim
  | some _ :: _, [], hs, _, _, _ => hs.elim
