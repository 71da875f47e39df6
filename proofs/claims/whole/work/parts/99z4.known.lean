/-! ===== what is known at the law's entry: classes, arrays, constants, statics ===== -/
/-- words that don't ride in contracts -/
def zw : List Cond := [.stringRef "ChainIndex$Tape" 73 "()<=+-*;", .stringRef "ChainIndex$Tape" 19 "row braid weighs append cut turn cross keep strict weak down sink not and or number place many kind ", .stringRef "ChainIndex" 169 "no such place", .laysStatic "java/lang/String" "COMPACT_STRINGS" "Z", .initialized "java/lang/String", .laysStatic "jdk/internal/util/Preconditions" "SIOOBE_FORMATTER" "Ljava/util/function/BiFunction;", .initialized "jdk/internal/util/Preconditions", .laysStatic Bundle.tN "UNASSIGNED_STACK" Bundle.steD, .laysStatic Bundle.tN "SUPPRESSED_SENTINEL" Bundle.listD, .initialized Bundle.tN, .arrayOver (.object "ChainIndex$Braid"), .arrayOver (.object "ChainIndex$Row"), .arrayOver (.object "ChainIndex$Store"), .arrayOver (.array .int), .arrayClass .char, .arrayClass .int, .arrayClass .long, .arrayClass .boolean]
theorem zw_in : ∀ w ∈ zw, w ∈ lw_tbl := by decide +kernel
theorem ngw_in : ∀ w ∈ NGW, w ∈ lw_tbl := by decide +kernel
def tmZ (i : Nat) : Term := if i = 0 then .string "ChainIndex$Tape" 73 else .string "ChainIndex$Tape" 19
def gw : List Cond := [.eq (.static "java/lang/String" "COMPACT_STRINGS" "Z") (.int 1), .isRef (.static "jdk/internal/util/Preconditions" "SIOOBE_FORMATTER" "Ljava/util/function/BiFunction;"), .isRef (.static Bundle.tN "UNASSIGNED_STACK" Bundle.steD), .isRef (.static Bundle.tN "SUPPRESSED_SENTINEL" Bundle.listD), .exactly (.string "ChainIndex" 169) "java/lang/String", .not (.eq (tmZ 1) (tmZ 0))]
theorem gw_in : ∀ w ∈ gw, w ∈ flatC (Jvm.Cond.and given_1 narrow_1) := by decide +kernel
theorem gx_in : ∀ i, i < 2 → Cond.exactly (tmZ i) "java/lang/String" ∈ flatC (Jvm.Cond.and given_1 narrow_1) := by decide +kernel
theorem gc_in : ∀ i, i < 2 → Cond.eq (.field (tmZ i) "java/lang/String" "coder" "B") (.int 0) ∈ flatC (Jvm.Cond.and given_1 narrow_1) := by decide +kernel
theorem ga_in : ∀ i, i < 2 → Cond.arrayOf (.field (tmZ i) "java/lang/String" "value" "[B") .byte ∈ flatC (Jvm.Cond.and given_1 narrow_1) := by decide +kernel
theorem gl_in : ∀ i, i < 2 → Cond.eq (.length (.field (tmZ i) "java/lang/String" "value" "[B")) (.int (Int32.ofNat (lenZ.getD i 0))) ∈ flatC (Jvm.Cond.and given_1 narrow_1) := by decide +kernel
theorem ge_in : ∀ i, i < 2 → ∀ j, j < lenZ.getD i 0 → Cond.eq (.elem (.field (tmZ i) "java/lang/String" "value" "[B") (.int (Int32.ofNat j))) (.int ((bytZ.getD i []).getD j 0)) ∈ flatC (Jvm.Cond.and given_1 narrow_1) := by decide +kernel
/-- what else holds of the machine -/
def Zl (adK adV : Nat → Nat) (sa B : Nat) (U : State) (H : Heap) : Prop := OKZ U ∧ SZ adK adV B U H ∧ EZ sa B U H
theorem kn_Z {s : State} {args : Array Value} (hts : ∀ w ∈ lw_tbl, w.before args s = true) (hgv : (Jvm.Cond.and given_1 narrow_1).before args s = true) : ∃ (adK adV : Nat → Nat) (sa : Nat), Zl adK adV sa s.heap.size s s.heap := by
  have hg := flat_of_before _ hgv
  have hA : ∀ a : Nat, a < s.heap.size → ¬ (fun q : Nat => s.heap.size ≤ q) a := fun a h => Nat.not_le.mpr h
  have zz : ∀ w ∈ zw, w.before args s = true := fun w hw => hts w (zw_in w hw)
  have gg : ∀ w ∈ gw, w.before args s = true := fun w hw => hg w (gw_in w hw)
  obtain ⟨adK, adV, h1, h2⟩ := vk_Sof (N := 2) (tm := tmZ) (len := lenZ) (byt := bytZ) (args := args) (s := s) (A := fun q : Nat => s.heap.size ≤ q) (by decide) (fun i hi => hg _ (gx_in i hi)) (fun i hi => hg _ (gc_in i hi)) (fun i hi => hg _ (ga_in i hi)) (fun i hi => hg _ (gl_in i hi)) (fun i hi j hj => hg _ (ge_in i hi j hj)) (fun i j hi hj hij => by
    have h9 : (Cond.not (.eq (tmZ 1) (tmZ 0))).before args s = true := gg _ (by simp [gw])
    rcases (show (i = 0 ∧ j = 1) ∨ (i = 1 ∧ j = 0) by omega) with ⟨rfl, rfl⟩ | ⟨rfl, rfl⟩
    · exact Or.inr h9
    · exact Or.inl h9) hA
  obtain ⟨sa, c, cA, kA, q1, -⟩ := Cond.exactly_spec (args := args) (first := s) (o := none) (s := s) (idx := []) (t := .string "ChainIndex" 169) (cls := "java/lang/String") (gg (.exactly (.string "ChainIndex" 169) "java/lang/String") (by simp [gw]))
  refine ⟨adK, adV, sa, ⟨va_AO.of (zz _ (by simp [zw])), va_AO.of (zz _ (by simp [zw])), va_AO.of (zz _ (by simp [zw])), zz (.arrayOver (.array .int)) (by simp [zw])⟩, ⟨h1, va_Zof (zz _ (by simp [zw])) (zz _ (by simp [zw])) (va_eqt (gg _ (by simp [gw]))) hA, va_Zqof (zz _ (by simp [zw])) (zz _ (by simp [zw])) (gg _ (by simp [gw])) hA, vk_R.of (zz _ (by simp [zw])) (h2 0 (by decide)), vk_R.of (zz _ (by simp [zw])) (h2 1 (by decide))⟩, ⟨fun w hw => va_tabs (ngw_ot w hw) rfl (hts w (ngw_in w hw)), vk_R.of (zz _ (by simp [zw])) q1, vx_Zqof (zz _ (by simp [zw])) (zz _ (by simp [zw])) (gg _ (by simp [gw])) hA, vx_Zqof (zz _ (by simp [zw])) (zz _ (by simp [zw])) (gg _ (by simp [gw])) hA⟩⟩
theorem ngw_warm {s U : State} (hW : s.WarmedH U.vm) (h : ∀ w ∈ NGW, w.before #[] s = true) : ∀ w ∈ NGW, w.before #[] U = true := by
  intro w hw
  have h1 := h w hw
  simp only [NGW, List.mem_cons, List.not_mem_nil, or_false] at hw
  rcases hw with rfl | rfl | rfl | rfl
  · exact va_Nw.warmC hW h1
  · exact va_Nw.warmD hW h1
  · exact va_Nw.warmD hW h1
  · exact va_Nw.warmD hW h1
theorem OKZ.moved {u U : State} (hvm : u.vm.Alike U.vm) (h : OKZ u) : OKZ U := ⟨va_AO.moved hvm h.1, va_AO.moved hvm h.2.1, va_AO.moved hvm h.2.2.1, va_AOA.moved hvm h.2.2.2⟩
theorem Zl_warm {adK adV : Nat → Nat} {sa B : Nat} {s U : State} {H : Heap} (hW : s.WarmedH U.vm) (h : Zl adK adV sa B s H) : Zl adK adV sa B U H := by
  obtain ⟨h1, ⟨a1, a2, a3, a4, a5⟩, b1, b2, b3, b4⟩ := h
  exact ⟨h1.moved hW.alike, ⟨vk_S.moved hW.alike a1, va_Z.moved hW.alike a2, va_Zq.moved hW.alike a3, vk_R.warm hW a4, vk_R.warm hW a5⟩, ngw_warm hW b1, vk_R.warm hW b2, vx_Zq.moved hW.alike b3, vx_Zq.moved hW.alike b4⟩
theorem Zl_same {adK adV : Nat → Nat} {sa B : Nat} {u U : State} {H : Heap} (hv : U.vm = u.vm) (h : Zl adK adV sa B u H) : Zl adK adV sa B U H := by
  have hA : u.vm.Alike U.vm := by rw [hv]; exact Vm.Alike.refl _
  obtain ⟨h1, ⟨a1, a2, a3, a4, a5⟩, b1, b2, b3, b4⟩ := h
  exact ⟨h1.moved hA, ⟨vk_S.moved hA a1, va_Z.moved hA a2, va_Zq.moved hA a3, vk_R.same hv a4, vk_R.same hv a5⟩, fun w hw => va_tabs (ngw_ot w hw) hv.symm (b1 w hw), vk_R.same hv b2, vx_Zq.moved hA b3, vx_Zq.moved hA b4⟩
theorem Zl_kept {adK adV : Nat → Nat} {sa B : Nat} {U : State} {H H1 : Heap} (hq : ∀ q : Nat, q < B → H1[q]? = H[q]?) (h : Zl adK adV sa B U H) : Zl adK adV sa B U H1 := by
  have hk : ∀ a : Nat, a < H.size → ¬ (fun q : Nat => B ≤ q) a → H1[a]? = H[a]? := fun a _ h2 => hq a (Nat.not_le.mp h2)
  obtain ⟨h1, ⟨a1, a2, a3, a4, a5⟩, b1, b2, b3, b4⟩ := h
  exact ⟨h1, ⟨a1.kept hk, a2.kept hk, a3.kept hk, a4, a5⟩, b1, b2, b3.kept hk, b4.kept hk⟩
theorem kn_of {s : State} {args : Array Value} {own : String} {idx c N : Nat} (h : NEW own idx c N) (hts : ∀ w ∈ tb, w.before args s = true) : ∃ (cC : ClassId) (iS : Nat → Nat), ∀ q : vw_C, vwCl[c]? = some q → u_Kn s q.1 q.2.1 q.2.2 cC iS := by
  obtain ⟨C, T, ⟨-, h1, h2, -⟩, -, h3, -, -⟩ := h
  obtain ⟨cC, iS, hk⟩ := u_known hts h2 (hts _ h3)
  exact ⟨cC, iS, fun q hq => by rw [h1] at hq; cases hq; exact hk⟩
theorem kn_all {s : State} {args : Array Value} (hts : ∀ w ∈ tb, w.before args s = true) : ∀ k : Nat, ∃ (cC : ClassId) (iS : Nat → Nat), ∀ q : vw_C, vwCl[k]? = some q → u_Kn s q.1 q.2.1 q.2.2 cC iS
  | 0 => kn_of nw_X2_9 hts
  | 1 => kn_of nw_X11_63 hts
  | 2 => kn_of nw_X11_87 hts
  | 3 => kn_of nw_X5_25 hts
  | 4 => kn_of nw_X5_18 hts
  | 5 => kn_of nw_X11_16 hts
  | 6 => kn_of nw_X7_9 hts
  | 7 => kn_of nw_X5_9 hts
  | 8 => kn_of nw_X11_80 hts
  | 9 => kn_of nw_X11_7 hts
  | 10 => kn_of nw_X11_73 hts
  | 11 => kn_of nw_L_8 hts
  | 12 => kn_of nw_L_16 hts
  | k + 13 => ⟨0, fun _ => 0, fun q hq => by
      rw [List.getElem?_eq_none (by show 13 ≤ k + 13; omega)] at hq
      cases hq⟩
theorem kn_cls {s : State} {args : Array Value} (hts : ∀ w ∈ tb, w.before args s = true) : ∃ (dC : Nat → ClassId) (dI : Nat → Nat → Nat), ∀ (k : Nat) (q : vw_C), vwCl[k]? = some q → u_Kn s q.1 q.2.1 q.2.2 (dC k) (dI k) := by
  obtain ⟨dC, h⟩ := Classical.axiomOfChoice (kn_all hts)
  obtain ⟨dI, h⟩ := Classical.axiomOfChoice h
  exact ⟨dC, dI, h⟩
theorem kn_p {s : State} {args : Array Value} {ty : FieldType} (h : (Cond.arrayClass ty).before args s = true) : ∃ c : ClassId, ArrOfT s c ty ∧ s.vm.findClass ("[" ++ ty.toString) = some c := by
  obtain ⟨c, k, comp, h1, h2, h3⟩ := Cond.arrayClass_spec h
  exact ⟨c, fun n z => ⟨fun k h => (by cases h), k, h2, comp, h3⟩, h1⟩
theorem kn_o {s : State} {C : String} (h : va_AO C s) : ∃ c : ClassId, ArrOfT s c (.object C) ∧ va_RA s c (.object C) := by
  obtain ⟨comp, c, k, h1, h2, h3, h4, h5⟩ := Cond.arrayOver_spec h
  exact ⟨c, fun n z => ⟨fun k h => (by cases h), k, h3, comp, h4⟩, k, comp, h3, h4, h1, h5⟩
theorem kn_a {s : State} (h : va_AOA s) : ∃ c : ClassId, ArrOfT s c (.array .int) ∧ s.vm.findClass ("[" ++ (FieldType.array .int).toString) = some c := by
  obtain ⟨comp, c, k, h1, h2, h3, h4, h5⟩ := arrayOverA_spec h
  exact ⟨c, fun n z => ⟨fun k h => (by cases h), k, h3, comp, h4⟩, h5⟩
theorem kn_arr {s : State} {args : Array Value} (hts : ∀ w ∈ lw_tbl, w.before args s = true) (ho : OKZ s) : ∃ dY : Nat → ClassId, ∀ (k : Nat) (q : ClassId × FieldType), ([(dY 13, .char), (dY 14, .int), (dY 15, .long), (dY 16, .boolean), (dY 17, .object "ChainIndex$Braid"), (dY 18, .object "ChainIndex$Row"), (dY 19, .object "ChainIndex$Store"), (dY 20, .array .int)] : List (ClassId × FieldType))[k]? = some q → ArrOfT s q.1 q.2 ∧ va_RA s q.1 q.2 := by
  have zz : ∀ w ∈ zw, w.before args s = true := fun w hw => hts w (zw_in w hw)
  obtain ⟨c13, a13, b13⟩ := kn_p (zz (.arrayClass .char) (by simp [zw]))
  obtain ⟨c14, a14, b14⟩ := kn_p (zz (.arrayClass .int) (by simp [zw]))
  obtain ⟨c15, a15, b15⟩ := kn_p (zz (.arrayClass .long) (by simp [zw]))
  obtain ⟨c16, a16, b16⟩ := kn_p (zz (.arrayClass .boolean) (by simp [zw]))
  obtain ⟨c17, a17, b17⟩ := kn_o ho.1
  obtain ⟨c18, a18, b18⟩ := kn_o ho.2.1
  obtain ⟨c19, a19, b19⟩ := kn_o ho.2.2.1
  obtain ⟨c20, a20, b20⟩ := kn_a ho.2.2.2
  refine ⟨fun k => if k = 13 then c13 else if k = 14 then c14 else if k = 15 then c15 else if k = 16 then c16 else if k = 17 then c17 else if k = 18 then c18 else if k = 19 then c19 else c20, fun k q hq => ?_⟩
  match k, hq with
  | 0, hq => cases hq; exact ⟨a13, b13⟩
  | 1, hq => cases hq; exact ⟨a14, b14⟩
  | 2, hq => cases hq; exact ⟨a15, b15⟩
  | 3, hq => cases hq; exact ⟨a16, b16⟩
  | 4, hq => cases hq; exact ⟨a17, b17⟩
  | 5, hq => cases hq; exact ⟨a18, b18⟩
  | 6, hq => cases hq; exact ⟨a19, b19⟩
  | 7, hq => cases hq; exact ⟨a20, b20⟩
  | k + 8, hq => cases hq
theorem kn_nst {s : State} {args : Array Value} (hts : ∀ w ∈ lw_tbl, w.before args s = true) : Nst s := fun q hq => va_Nw.of rfl (hts _ (nests_in q hq))
/-- less room is there too -/
theorem room_le {s : State} {pl : Platform} {r r' : Room} (h : s.hasRoom pl r = true) (h1 : r'.frames ≤ r.frames) (h2 : r'.cells ≤ r.cells) (h3 : r'.slots ≤ r.slots) (h4 : r'.locals ≤ r.locals) : s.hasRoom pl r' = true := by
  simp only [State.hasRoom, Bool.and_eq_true, decide_eq_true_eq] at h ⊢
  obtain ⟨⟨⟨⟨a1, a2, a3, a4, a5, a6⟩, a7⟩, a8⟩, a9⟩ := h
  exact ⟨⟨⟨⟨by omega, by omega, by omega, by omega, by omega, a6⟩, by omega⟩, by omega⟩, a9⟩
