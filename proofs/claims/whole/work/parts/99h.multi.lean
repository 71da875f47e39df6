/-! ===== a table of ints is made: multianewarray of two dimensions ===== -/
/-- the outer row with i of its rows laid, the inner row -/
def muO (c : ClassId) (N h i : Nat) : Cell := arrV c N (fun j => if j < i then .ref (h + 1 + j) else .null)
def muI (c : ClassId) (M : Nat) : Cell := { cls := c, slots := Array.replicate M (.int 0), vm := .none }
theorem muO_up (c : ClassId) (N h i : Nat) : (muO c N h i).setSlot i (.ref (h + 1 + i)) = muO c N h (i + 1) := by
  unfold muO
  rw [arrV_store]
  congr 1
  funext j
  unfold updV
  by_cases e : j = i
  · rw [if_pos e, if_pos (by omega), e]
  · rw [if_neg e]
    dsimp only
    by_cases q : j < i
    · rw [if_pos q, if_pos (by omega)]
    · rw [if_neg q, if_neg (by omega)]
theorem muO_0 (c : ClassId) (N h : Nat) : ({ cls := c, slots := Array.replicate N .null, vm := .none } : Cell) = muO c N h 0 := by
  rw [arrV_new]
  unfold muO
  congr 1
theorem muO_len (c : ClassId) (N h i : Nat) : (muO c N h i).slots.size = N := arrV_size _ _ _
theorem muI_len (c : ClassId) (M : Nat) : (muI c M).slots.size = M := Array.size_replicate
/-- what holds behind i inner rows (no word of which state it is: the heap from H on, and that the method stands there) -/
def muJ (S : State → List Loc → Nat → Nat → Prop) (H : Heap) (v : Vm) (cA cI : ClassId) (lo : List Loc) (ce sl N M i : Nat) (T : State) : Prop :=
  T.vm = v ∧ T.heap.size = H.size + 1 + i ∧ (∀ a, a < H.size → T.heap[a]? = H[a]?) ∧ T.heap[H.size]? = some (muO cA N H.size i) ∧ (∀ j, j < i → T.heap[H.size + 1 + j]? = some (muI cI M)) ∧
    S T (lo ++ (List.range i).map (fun j => ⟨H.size, j⟩)) (ce + 1 + i) (sl + N + i * M)
section MUJ
variable {p : Program} {l : Launch} {e : Env} {R : Room} {s : State} {m : MethodId} {args : Array Value} {below : List Frame} {meth : Method} {c : Code} {T : State} {H : Heap} {v : Vm} {cA cI : ClassId} {lo : List Loc} {ce sl N M i : Nat}
theorem muJ.start (X : Stand p l e R s m args below meth c T lo ce sl) (hv : T.vm = v) (hH : T.heap = H) : muJ (Stand p l e R s m args below meth c) H v cA cI lo ce sl N M 0 (T.pushCell (muO cA N H.size 0)) := by
  subst hH
  have Y := X.pushed (muO cA N T.heap.size 0)
  rw [muO_len] at Y
  refine ⟨hv, Array.size_push _, fun a ha => State.heap_pushCell_of_lt _ _ ha, State.heap_pushCell_size _ _, fun j hj => by omega, ?_⟩
  rw [Nat.zero_mul, List.range_zero, List.map_nil, List.append_nil]
  exact Y
theorem muJ.step (h : muJ (Stand p l e R s m args below meth c) H v cA cI lo ce sl N M i T) : muJ (Stand p l e R s m args below meth c) H v cA cI lo ce sl N M (i + 1) ((T.pushCell (muI cI M)).setCell H.size (muO cA N H.size (i + 1))) := by
  obtain ⟨hv, hz, hk, ho, hn, X⟩ := h
  generalize hU : T.pushCell (muI cI M) = U
  have uk : ∀ a, a < H.size + 1 + i → U.heap[a]? = T.heap[a]? := fun a ha => by
    rw [← hU]
    exact State.heap_pushCell_of_lt _ _ (by rw [hz]; exact ha)
  have un : U.heap[H.size + 1 + i]? = some (muI cI M) := by
    rw [← hU, ← hz]
    exact State.heap_pushCell_size _ _
  have uz : U.heap.size = H.size + 1 + (i + 1) := by
    rw [← hU]
    exact (Array.size_push _).trans (by rw [hz]; omega)
  have uo := (uk H.size (by omega)).trans ho
  have ne : ∀ a, a ≠ H.size → (U.setCell H.size (muO cA N H.size (i + 1))).heap[a]? = U.heap[a]? := fun a ha => State.heap_setCell_other (Ne.symm ha)
  have Y := X.pushed (muI cI M)
  rw [hU, muI_len] at Y
  have Z := Y.stored uo i (.ref (H.size + 1 + i))
  rw [muO_up] at Z
  refine ⟨by rw [← hv, ← hU]; rfl, (size_setCell _ _ _).trans uz, fun a ha => ?_, State.heap_setCell_self uo, fun j hj => ?_, ?_⟩
  · rw [ne a (by omega), uk a (by omega), hk a ha]
  · rw [ne _ (by omega)]
    rcases Nat.lt_succ_iff_lt_or_eq.mp hj with q | q
    · rw [uk _ (by omega), hn j q]
    · rw [q, un]
  · rw [List.range_succ, List.map_append, ← List.append_assoc, Nat.succ_mul, ← Nat.add_assoc (sl + N)]
    exact Z
/-- rows of at most a thousand fit every launch -/
theorem mu_lim (X : Stand p l e R s m args below meth c T lo ce sl) {k : Nat} (h : k ≤ 1000) : ¬ k > e.platform.arrayLengthLimit ∧ ¬ k * 4 > e.platform.maxHeapBytes := by
  have a1 := Launch.admits_arrayLengthLimit X.admits
  have a2 := Launch.admits_maxHeapBytes X.admits
  constructor <;> omega
/-- one inner row: made, and laid into its place -/
theorem mu_row {E : CtlPost} {d : Bool} {acts : List Action} {g : JFrame} {b : Int32} {kA kI : Class} {c1 : ClassId} (hM : b.toNatClampNeg = M) (h0 : ¬ b < 0) (hA : v.classes[cA]? = some kA ∧ kA.kind = .array cI (.array .int)) (hI : v.classes[cI]? = some kI ∧ kI.kind = .array c1 .int) (hM1 : M ≤ 1000)
    (hc : ce + (1 + N) ≤ R.cells) (hs : sl + (N + N * M) ≤ R.slots) (hi : i < N) (h : muJ (Stand p l e R s m args below meth c) H v cA cI lo ce sl N M i T) {Q : Unit → Pre} {K : Addr → Pre} (hK : ∀ r d' acts' T', wp (Jvm.writeLoc H.size i (.ref r)) Q E e d' acts' T' → K r d' acts' T')
    (hq : ∀ d' acts', Q () d' acts' (((T.pushCell (muI cI M)).setCell H.size (muO cA N H.size (i + 1))).setTop g)) : wp (multianewarray.make cI [b]) K E e d acts (T.setTop g) := by
  subst hM
  obtain ⟨hv, hz, -, ho, -, X⟩ := id h
  obtain ⟨l1, l2⟩ := mu_lim X hM1
  have hle : i * b.toNatClampNeg + b.toNatClampNeg ≤ N * b.toNatClampNeg := Nat.succ_mul i _ ▸ Nat.mul_le_mul_right _ hi
  obtain ⟨r1, r2⟩ := X.roomAbove (a := 1) (b := b.toNatClampNeg) (by omega) (by omega)
  have kI' : (T.setTop g).vm.classes[cI]? = some kI := by rw [show (T.setTop g).vm = v from hv]; exact hI.1
  rw [multianewarray.make]
  simp only [wp_bind', W.ite, h0, if_false, wp_pure', W.theClass, kI', hI.2, Option.some.injEq, exists_eq_left']
  refine W.newArray_of kI' hI.2 l1 l2 r1 r2 rfl fun acts' => ?_
  have hlt : H.size < T.heap.size := by rw [hz]; omega
  have ho' : (T.pushCell (muI cI b.toNatClampNeg)).heap[H.size]? = some (muO cA N H.size i) := (State.heap_pushCell_of_lt _ _ hlt).trans ho
  refine hK _ _ _ _ ((W.writeLoc _ _ _ _).mpr ⟨_, ho', (fun q => by cases q), by rw [muO_len]; exact hi, ?_, ?_⟩)
  · show State.fitsSlot _ cA .none i _ = true
    simp [State.fitsSlot, State.slotType?, hv, hA.1, hA.2, fits]
  · have e1 : (T.setTop g).heap.size = H.size + 1 + i := hz
    rw [e1, muO_up]
    exact hq _ _
/-- the rows that are left: some state that is known enough, and the way there -/
theorem mu_loop {g : JFrame} {b : Int32} {kA kI : Class} {c1 : ClassId} (hM : b.toNatClampNeg = M) (h0 : ¬ b < 0) (hA : v.classes[cA]? = some kA ∧ kA.kind = .array cI (.array .int)) (hI : v.classes[cI]? = some kI ∧ kI.kind = .array c1 .int) (hM1 : M ≤ 1000)
    (hc : ce + (1 + N) ≤ R.cells) (hs : sl + (N + N * M) ≤ R.slots) : ∀ (k i : Nat) (T : State), i + k = N → muJ (Stand p l e R s m args below meth c) H v cA cI lo ce sl N M i T →
      ∃ U, muJ (Stand p l e R s m args below meth c) H v cA cI lo ce sl N M N U ∧ ∀ (E : CtlPost) (f : Nat → PUnit → Sem (ForInStep PUnit)), (∀ x u, f x u = (multianewarray.make cI [b] >>= fun r => Jvm.writeLoc H.size x (.ref r) >>= fun _ => Pure.pure (ForInStep.yield PUnit.unit))) →
        ∀ (Q : PUnit → Pre) (d : Bool) (acts : List Action), (∀ d' acts', Q PUnit.unit d' acts' (U.setTop g)) → wp (forIn (List.range' i k) PUnit.unit f) Q E e d acts (T.setTop g) := by
  intro k
  induction k with
  | zero =>
    intro i T hi h
    obtain rfl : i = N := by omega
    exact ⟨T, h, fun E f hf Q d acts hq => by rw [List.range'_zero, List.forIn_nil, wp_pure']; exact hq _ _⟩
  | succ k ih =>
    intro i T hi h
    obtain ⟨U, hU, way⟩ := ih (i + 1) _ (by omega) h.step
    refine ⟨U, hU, fun E f hf Q d acts hq => ?_⟩
    rw [List.range'_succ, List.forIn_cons, wp_bind', hf]
    rw [wp_bind']
    refine mu_row hM h0 hA hI hM1 hc hs (by omega) h (fun r d1 acts1 T1 hw => (wp_bind' ..).mpr hw) fun d' acts' => ?_
    rw [wp_pure']
    exact way E f hf Q d' acts' hq
/-- the classes of the table: where the entry leads, what they are -/
theorem mu_cls (X : Stand p l e R s m args below meth c T lo ce sl) {own : String} {index : Nat} (hown : s.vm.findClass own = some m.cls) (hl : (Cond.classLink own index "[[I").before args s = true) (ho : (Cond.arrayOver (.array .int)).before args s = true) (ha : (Cond.arrayClass .int).before args s = true) :
    ∃ (v : Vm) (cA cI c1 : ClassId) (kA kI : Class), (Jvm.resolveClass m.cls index).Gives e.toSetting T.vm (.ok cA) v ∧ s.WarmedH v ∧ s.vm.findClass ("[" ++ (FieldType.array .int).toString) = some cA ∧ s.vm.findClass (FieldType.array .int).toString = some cI ∧
      (v.classes[cA]? = some kA ∧ kA.kind = .array cI (.array .int)) ∧ (v.classes[cI]? = some kI ∧ kI.kind = .array c1 .int) := by
  obtain ⟨cI, cA, kA, a1, -, a3, a4, a5⟩ := arrayOverA_spec ho
  obtain ⟨b0, kI, c1, b1, b2, b3⟩ := Cond.arrayClass_spec ha
  obtain ⟨z0, z1, z2⟩ := Cond.classLink_spec hown hl e.platform (by rw [X.admits.platform])
  have y1 : b0 = cI := Option.some.inj (b1.symm.trans a1)
  have y2 : z0 = cA := Option.some.inj (z1.symm.trans a5)
  subst y1 y2
  obtain ⟨g1, g2, -⟩ := State.classEntry (e := e) X.warmed z2
  obtain ⟨kA', q1, q2⟩ := g2.alike.2.2 _ _ a3
  obtain ⟨kI', r1, r2⟩ := g2.alike.2.2 _ _ b2
  exact ⟨_, _, _, c1, kA', kI', g1, g2, a5, a1, ⟨q1, by rw [q2]; exact a4⟩, r1, by rw [r2]; exact b3⟩
end MUJ
section MUS
variable {p : Program} {l : Launch} {e : Env} {R : Room} {s : State} {m : MethodId} {args : Array Value} {below : List Frame} {meth : Method} {c : Code} {T : State} {H : Heap} {locs : List Loc} {cells slots : Nat} {Q : State → Prop}
theorem mu_W {cc : ByteArray} (hexec : p.tables.exec = Jvm.exec) (hb : c.code = cc) {own : String} {index : Nat} (hown : s.vm.findClass own = some m.cls) (hclink : (Cond.classLink own index "[[I").before args s = true) (hover : (Cond.arrayOver (.array .int)).before args s = true) (harr : (Cond.arrayClass .int).before args s = true)
    {pc : Nat} {ls : Array Slot} (hdg : decode cc pc = .ok (.multianewarray index 2, 4)) {n k : Int32} {rest : List Value} (hn : ¬ n < 0) (hk : ¬ k < 0) (hb1 : n.toNatClampNeg ≤ 1000) (hb2 : k.toNatClampNeg ≤ 1000)
    (hcells : cells + (1 + n.toNatClampNeg) ≤ R.cells) (hslots : slots + (n.toNatClampNeg + n.toNatClampNeg * k.toNatClampNeg) ≤ R.slots)
    (kk : ∀ (H1 : Heap) (cA cI : ClassId), s.vm.findClass ("[" ++ (FieldType.array .int).toString) = some cA → s.vm.findClass (FieldType.array .int).toString = some cI → H1.size = H.size + 1 + n.toNatClampNeg → H1[H.size]? = some (muO cA n.toNatClampNeg H.size n.toNatClampNeg) → (∀ a, a < H.size → H1[a]? = H[a]?) → (∀ j, j < n.toNatClampNeg → H1[H.size + 1 + j]? = some (muI cI k.toNatClampNeg)) → W p l e R s m args below meth c H1 (locs ++ (List.range n.toNatClampNeg).map fun j => ⟨H.size, j⟩) (cells + 1 + n.toNatClampNeg) (slots + n.toNatClampNeg + n.toNatClampNeg * k.toNatClampNeg) Q (F0 m (pc + 4) ls (.ref H.size :: rest))) : W p l e R s m args below meth c H locs cells slots Q (F0 m pc ls (.int k :: .int n :: rest)) := by
  intro T hT X
  subst hb hT
  obtain ⟨v, cA, cI, c1, kA, kI, hg, hw, nA, nI, hA, hI⟩ := mu_cls X hown hclink hover harr
  have X1 := X.noted hw
  obtain ⟨l1, l2⟩ := mu_lim X hb1
  obtain ⟨r1, r2⟩ := X1.roomAbove (a := 1) (b := n.toNatClampNeg) (by omega) (by have := Nat.zero_le (n.toNatClampNeg * k.toNatClampNeg); omega)
  have J := muJ.start (cA := cA) (cI := cI) (N := n.toNatClampNeg) (M := k.toNatClampNeg) X1 (v := v) (H := T.heap) rfl rfl
  obtain ⟨U, hU, way⟩ := mu_loop (g := F0 m pc ls rest) rfl hk hA hI hb2 hcells hslots n.toNatClampNeg 0 _ (Nat.zero_add _) J
  obtain ⟨uv, uz, uk, uo, un, XU⟩ := hU
  obtain ⟨t, a1, b1⟩ := kk U.heap cA cI nA nI uz uo uk un U rfl XU
  refine ⟨t, ?_, b1⟩
  have kA' : ((T.setVm v).setTop (F0 m pc ls rest)).vm.classes[cA]? = some kA := hA.1
  jvm_step X.here [hexec, hdg]
  simp only [multianewarray.sem, wp_bind']
  rw [W.resolveClassAt_links (State.method?_setTop _ X.here.top) hg, wp_bind']
  refine (popN_top (s := T.setVm v) (f := F0 m pc ls (.int k :: .int n :: rest)) (args := [.int n, .int k]) (rest := rest) X1.here.top rfl).mpr ?_
  show wp _ _ _ e _ _ ((T.setVm v).setTop (F0 m pc ls rest))
  simp only [List.mapM_cons, List.mapM_nil, wp_bind', wp_pure']
  rw [multianewarray.make]
  simp only [wp_bind', W.ite, hn, if_false, wp_pure', W.theClass, kA', hA.2, Option.some.injEq, exists_eq_left', List.find?_cons, List.find?_nil, hk, decide_false, ite_self]
  refine W.newArray_of kA' hA.2 l1 l2 r1 r2 rfl fun acts1 => ?_
  have e0 : ((T.setVm v).setTop (F0 m pc ls rest)).pushCell { cls := cA, slots := Array.replicate n.toNatClampNeg .null } = ((T.setVm v).pushCell (muO cA n.toNatClampNeg T.heap.size 0)).setTop (F0 m pc ls rest) := by rw [← muO_0]; rfl
  have e1 : ([:n.toNatClampNeg] : Std.Legacy.Range).size = n.toNatClampNeg := by simp [Std.Legacy.Range.size]
  rw [wp_bind', Std.Legacy.Range.forIn_eq_forIn_range', e1, e0]
  refine way _ _ ?_ _ _ _ fun d' acts' => ?_
  · exact fun _ _ => rfl
  · simp only [wp_pure', wp_bind', W.mark, W.pushRef, State.topJava?_setTop' _ XU.here.top, Option.some.injEq, exists_eq_left', State.setTop_setTop]
    intro acts2
    simp [jvm, XU.here.top]
    exact a1
end MUS
