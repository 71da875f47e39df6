/-! ===== String constants: the JDK's methods that only read ===== -/
def sgZ : List Int32 := [40, 41, 60, 61, 43, 45, 42, 59]
def kwZ : List Int32 := [114, 111, 119, 32, 98, 114, 97, 105, 100, 32, 119, 101, 105, 103, 104, 115, 32, 97, 112, 112, 101, 110, 100, 32, 99, 117, 116, 32, 116, 117, 114, 110, 32, 99, 114, 111, 115, 115, 32, 107, 101, 101, 112, 32, 115, 116, 114, 105, 99, 116, 32, 119, 101, 97, 107, 32, 100, 111, 119, 110, 32, 115, 105, 110, 107, 32, 110, 111, 116, 32, 97, 110, 100, 32, 111, 114, 32, 110, 117, 109, 98, 101, 114, 32, 112, 108, 97, 99, 101, 32, 109, 97, 110, 121, 32, 107, 105, 110, 100, 32]
def lenZ : List Nat := [8, 100]
def bytZ : List (List Int32) := [sgZ, kwZ]
/-- what is known of the constants -/
def SZ (adK adV : Nat → Nat) (B : Nat) (U : State) (H : Heap) : Prop := vk_S 2 lenZ bytZ adK adV (fun q => B ≤ q) U H ∧ va_Z "java/lang/String" "COMPACT_STRINGS" "Z" (.int 1) (fun q => B ≤ q) U H ∧ va_Zq "jdk/internal/util/Preconditions" "SIOOBE_FORMATTER" "Ljava/util/function/BiFunction;" (fun q => B ≤ q) U H ∧ vk_R "ChainIndex$Tape" 73 "()<=+-*;" (adK 0) U ∧ vk_R "ChainIndex$Tape" 19 "row braid weighs append cut turn cross keep strict weak down sink not and or number place many kind " (adK 1) U
def PJ (K : KK) (as : List Value) : Array Value → State → Prop := fun v U => v = as.toArray ∧ Zok K ∧ kZ K U U.heap ∧ kB K ≤ U.heap.size
def QJ (r : Option Value) : Array Value → State → Outcome → State → Prop := fun _ st oc t => oc = .returned r ∧ t.heap = st.heap
/-- a method that only reads, from the JDK -/
def MJ (K : KK) (d : Nat) (y : MI) (as : List Value) (r : Option Value) : Prop := Met (kL K) y.1 (Cond.code y.1 y.2.1 y.2.2.1 y.2.2.2 :: tb) (rmO d 0 0) (PJ K as) (QJ r) 0 0 (kA K)
def CJ (K : KK) (y : MI) (p : Program) (s : State) (m : MethodId) (args : Array Value) (meth : Method) (c : Code) : Prop := p.tables.exec = Jvm.exec ∧ c.code = y.2.1 ∧ meth.sig.returnType = y.2.2.2 ∧ c.maxLocals = y.2.2.1 ∧ s.vm.findClass y.1.cls = some m.cls ∧ (∀ w ∈ tb, w.before args s = true) ∧ meth.locks = false ∧ Zok K ∧ kZ K s s.heap ∧ kB K ≤ s.heap.size
theorem PJ.blind {K : KK} {as : List Value} : FrameBlind (PJ K as) := by
  intro a U g mk q
  obtain ⟨q0, q1, q2, q3⟩ := q
  exact ⟨q0, q1, q1.2.1 U (U.calling g mk a) _ rfl q2, q3⟩
theorem mj_of {K : KK} {d : Nat} {y : MI} {as : List Value} {r : Option Value} (hy : plainName y.1.cls = true) (hn : (lg_sl as).length ≤ y.2.2.1) (h : ∀ (p : Program) (e : Env) (s : State) (m : MethodId) (below : List Frame) (meth : Method) (c : Code) (ls : Array Slot), CJ K y p s m as.toArray meth c → lv_has ls y.2.2.1 (lv_args 0 as) → W p (kL K) e (rmO d 0 0) s m as.toArray below meth c s.heap [] 0 0 (MQ below (QJ r) as.toArray s 0 0 (kA K)) (F0 m 0 ls [])) : MJ K d y as r := by
  refine Met.ofW (cc := y.2.1) (maxL := y.2.2.1) (ret := y.2.2.2) hy rfl ?_
  intro p e s m args below meth c s₁ B hml hv
  obtain ⟨rfl, h1, h2, h3⟩ := hv
  have hts := atoms_spec (ws := Cond.code y.1 y.2.1 y.2.2.1 y.2.2.2 :: tb) B.pre
  rw [lg_entry_eq]
  exact h p e s m below meth c _ ⟨B.exec, B.bytes, B.returns, hml, findClass_of_methodNamed B.named, fun w hw => hts w (List.mem_cons_of_mem _ hw), B.notSynchronized, h1, h2, h3⟩ (lv_entry as hn)
section MJC
variable {K : KK} {d : Nat} {p : Program} {e : Env} {s : State} {m : MethodId} {args : Array Value} {below : List Frame} {meth : Method} {c : Code} {H : Heap} {locs : List Loc} {cl sl mc ms : Nat} {Qw : State → Prop} {pc : Nat} {ls : Array Slot} {rest : List Value}
theorem mj_run {st0 : List Value} {r : Option Value} {a : Array Value} (hr : va_Run p (kL K) e (rmO d mc ms) s m args below meth c H locs cl sl 0 0 (F0 m pc ls st0) rest (QJ r a) (kA K)) (hS : va_S (kA K) s.heap H locs) (kk : ∀ locs1, va_S (kA K) s.heap H locs1 → W p (kL K) e (rmO d mc ms) s m args below meth c H locs1 cl sl Qw (F0 m (pc + 3) ls (r.toList ++ rest))) : W p (kL K) e (rmO d mc ms) s m args below meth c H locs cl sl Qw (F0 m pc ls st0) := by
  intro T hT X
  obtain ⟨v, st₀, t, T', L, h0, X', hL, e1, e2, ⟨hv, hh⟩, st⟩ := hr T hT X
  cases hv
  obtain ⟨t2, a1, b1⟩ := kk (locs ++ L) ⟨hS.1, hS.2.1, fun q hq => by
    rcases List.mem_append.mp hq with h | h
    · exact hS.2.2 q h
    · exact hL q h⟩ T' (by rw [e1, hh, h0]) X'
  exact ⟨t2, st t2 a1, b1⟩
theorem mj_pre {as : List Value} (hO : Zok K) (hk : kZ K s s.heap) (hB : kB K ≤ s.heap.size) (hS : va_S (kA K) s.heap H locs) : ∀ U : State, U.heap = H → s.WarmedH U.vm → PJ K as as.toArray U := by
  intro U hU hW
  refine ⟨rfl, hO, ?_, by rw [hU]; exact Nat.le_trans hB hS.1⟩
  rw [hU]
  exact hO.2.2 U _ _ (fun q hq => hS.2.1 q (Nat.lt_of_lt_of_le hq hB) (Nat.not_le.mpr hq)) (hO.1 s U _ hW hk)
theorem mj_callV {own C : String} {idx n nL d' b : Nat} {y' : MI} {As : List Value} {r : Option Value} {cc : ByteArray} (hS9 : CallFix p m c cc nL s args tb own) (ho : MOK y' n) (hlk : Cond.methodLink own idx y'.1 ∈ tb) (hin : Cond.instanceMethod y'.1 ∈ tb) (hsel : Cond.selects C y'.1 y'.1 ∈ tb) (hC : C = y'.1.cls) (hM : MJ K d' y' (.ref b :: As) r) (hdd : d' < d) (hm : cl ≤ mc ∧ sl ≤ ms) (hO : Zok K) (hk : kZ K s s.heap) (hB : kB K ≤ s.heap.size) (hS : va_S (kA K) s.heap H locs) (hrc : ∃ cell : Cell, H[b]? = some cell ∧ cell.vm.isStatics = false ∧ s.vm.findClass C = some cell.cls) (hn : As.length = n) (hls : ls.size = nL) (hW : (rest.map fun v => v.category).sum ≤ 8) (hd : decode cc pc = .ok (.invokevirtual idx, 3)) (kk : ∀ locs1, va_S (kA K) s.heap H locs1 → W p (kL K) e (rmO d mc ms) s m args below meth c H locs1 cl sl Qw (F0 m (pc + 3) ls (r.toList ++ rest))) : W p (kL K) e (rmO d mc ms) s m args below meth c H locs cl sl Qw (F0 m pc ls (As.reverse ++ .ref b :: rest)) := by
  obtain ⟨hy, hcode, hini, hmx⟩ := ho
  subst hC
  have hts := hS9.2.2.2.2
  have hG : GoodIn tb (Cond.code y'.1 y'.2.1 y'.2.2.1 y'.2.2.2 :: tb) := fun w hw => (List.mem_cons.mp hw).elim (fun q => q ▸ tb_good hcode) tb_good
  have cw : CallW (rmO d mc ms) s args own y'.1.cls idx y'.1 y'.2.1 y'.2.2.1 y'.2.2.2 (Cond.code y'.1 y'.2.1 y'.2.2.1 y'.2.2.2 :: tb) (rmO d' 0 0) 0 0 n :=
    ⟨callB_of n hts hG rfl rfl rfl (hts _ hini) (hts _ hlk) hy ⟨by show d' + 1 ≤ d; omega, by show 8 + (y'.2.2.1 + 11) + 40 * d' ≤ 40 * d; omega⟩, hts _ hin, hts _ hsel⟩
  exact mj_run (va_runV (g := F0 m pc ls (As.reverse ++ .ref b :: rest)) hS9 hM cw ⟨PJ.blind, hrc, mj_pre hO hk hB hS⟩ rfl hn hls rfl (lv_room hW) hd hm) hS kk
theorem mj_callS {own : String} {idx n nL d' : Nat} {y' : MI} {As : List Value} {r : Option Value} {cc : ByteArray} (hS9 : CallFix p m c cc nL s args tb own) (ho : MOK y' n) (hlk : Cond.methodLink own idx y'.1 ∈ tb) (hst : Cond.static y'.1 ∈ tb) (hM : MJ K d' y' As r) (hdd : d' < d) (hm : cl ≤ mc ∧ sl ≤ ms) (hO : Zok K) (hk : kZ K s s.heap) (hB : kB K ≤ s.heap.size) (hS : va_S (kA K) s.heap H locs) (hn : As.length = n) (hls : ls.size = nL) (hW : (rest.map fun v => v.category).sum ≤ 8) (hd : decode cc pc = .ok (.invokestatic idx, 3)) (kk : ∀ locs1, va_S (kA K) s.heap H locs1 → W p (kL K) e (rmO d mc ms) s m args below meth c H locs1 cl sl Qw (F0 m (pc + 3) ls (r.toList ++ rest))) : W p (kL K) e (rmO d mc ms) s m args below meth c H locs cl sl Qw (F0 m pc ls (As.reverse ++ rest)) := by
  obtain ⟨hy, hcode, hini, hmx⟩ := ho
  have hts := hS9.2.2.2.2
  have hG : GoodIn tb (Cond.code y'.1 y'.2.1 y'.2.2.1 y'.2.2.2 :: tb) := fun w hw => (List.mem_cons.mp hw).elim (fun q => q ▸ tb_good hcode) tb_good
  exact mj_run (va_runS (g := F0 m pc ls (As.reverse ++ rest)) hS9 hM ⟨callB_of n hts hG rfl rfl rfl (hts _ hini) (hts _ hlk) hy ⟨by show d' + 1 ≤ d; omega, by show 8 + (y'.2.2.1 + 11) + 40 * d' ≤ 40 * d; omega⟩, hts _ hst⟩ ⟨PJ.blind, mj_pre hO hk hB hS⟩ rfl hn hls rfl (lv_room hW) hd hm) hS kk
end MJC
section MJM
variable {K : KK} {adK adV : Nat → Nat} {d i : Nat}
theorem j_coder (hz : ∀ U H, kZ K U H → SZ adK adV (kB K) U H) (hi : i < 2) : MJ K d mJ0_coder_7d493 [.ref (adK i)] (some (.int 0)) := by
  refine mj_of rfl (Nat.le_of_ble_eq_true rfl) ?_
  intro p e s m below meth c ls hC hl
  obtain ⟨hx, hb, hr, hml, hown, hts, hlk, hO, hk, hB⟩ := hC
  obtain ⟨z1, z2, z3, z4, z5⟩ := hz _ _ hk
  have hS : va_S (kA K) s.heap s.heap [] := va_S.rf
  refine va_gets hx hb z2 hS hown (hts _ fj0_38) (fun _ h => h) dJ0_coder_7d493_0 ?_
  refine lv_if_eq (tgt := 13) hx hb dJ0_coder_7d493_3 rfl (fun q => absurd q (by decide)) (fun _ => ?_)
  refine lv_aload_n hx hb dJ0_coder_7d493_6 rfl (lv_at hl 0 rfl) ?_
  refine vk_getf hx hb (z1.1 i hi).2.1 hS hown (hts _ fj0_15) (fun _ h => h) dJ0_coder_7d493_7 ?_
  refine lv_goto (tgt := 14) hx hb dJ0_coder_7d493_10 rfl ?_
  exact W.zret (v := 0) hx hb hr rfl (fun t ht _ => ⟨rfl, ht⟩) hS.2.2 dJ0_coder_7d493_14 hlk
theorem j_isLatin1 (hz : ∀ U H, kZ K U H → SZ adK adV (kB K) U H) (hi : i < 2) : MJ K d mJ0_isLatin1_aae02 [.ref (adK i)] (some (.int 1)) := by
  refine mj_of rfl (Nat.le_of_ble_eq_true rfl) ?_
  intro p e s m below meth c ls hC hl
  obtain ⟨hx, hb, hr, hml, hown, hts, hlk, hO, hk, hB⟩ := hC
  obtain ⟨z1, z2, z3, z4, z5⟩ := hz _ _ hk
  have hS : va_S (kA K) s.heap s.heap [] := va_S.rf
  refine va_gets hx hb z2 hS hown (hts _ fj0_38) (fun _ h => h) dJ0_isLatin1_aae02_0 ?_
  refine lv_if_eq (tgt := 17) hx hb dJ0_isLatin1_aae02_3 rfl (fun q => absurd q (by decide)) (fun _ => ?_)
  refine lv_aload_n hx hb dJ0_isLatin1_aae02_6 rfl (lv_at hl 0 rfl) ?_
  refine vk_getf hx hb (z1.1 i hi).2.1 hS hown (hts _ fj0_15) (fun _ h => h) dJ0_isLatin1_aae02_7 ?_
  refine lv_if_ne (tgt := 17) hx hb dJ0_isLatin1_aae02_10 rfl (fun q => absurd rfl q) (fun _ => ?_)
  refine lv_iconst (v := 1) hx hb dJ0_isLatin1_aae02_13 (by decide) ?_
  refine lv_goto (tgt := 18) hx hb dJ0_isLatin1_aae02_14 rfl ?_
  exact W.zret (v := 1) hx hb hr rfl (fun t ht _ => ⟨rfl, ht⟩) hS.2.2 dJ0_isLatin1_aae02_18 hlk
theorem len_sh : ∀ i, i < 2 → Int32.ofNat (lenZ.getD i 0) >>> ((0 : Int32) &&& 31) = Int32.ofNat (lenZ.getD i 0) := by decide +kernel
theorem j_length (hz : ∀ U H, kZ K U H → SZ adK adV (kB K) U H) (hi : i < 2) : MJ K (d + 1) mJ0_length_8abf5 [.ref (adK i)] (some (.int (Int32.ofNat (lenZ.getD i 0)))) := by
  refine mj_of rfl (Nat.le_of_ble_eq_true rfl) ?_
  intro p e s m below meth c ls hC hl
  obtain ⟨hx, hb, hr, hml, hown, hts, hlk, hO, hk, hB⟩ := hC
  obtain ⟨z1, z2, z3, z4, z5⟩ := hz _ _ hk
  have hS : va_S (kA K) s.heap s.heap [] := va_S.rf
  refine lv_aload_n hx hb dJ0_length_8abf5_0 rfl (lv_at hl 0 rfl) ?_
  refine vk_getf hx hb (z1.1 i hi).2.2.1 hS hown (hts _ fj0_9) (fun _ h => h) dJ0_length_8abf5_1 ?_
  refine va_tlen hx hb (z1.1 i hi).2.2.2 hS rfl dJ0_length_8abf5_4 ?_
  refine lv_aload_n hx hb dJ0_length_8abf5_5 rfl (lv_at hl 0 rfl) ?_
  refine mj_callV (As := []) (rest := [.int (Int32.ofNat (lenZ.getD i 0))]) ⟨hx, hb, hml, hown, hts⟩ okJ0_coder_7d493 ljJ0_335 imJ0_coder_7d493 seJ0_coder_7d493 rfl (j_coder (d := d) hz hi) (by omega) ⟨Nat.le_refl _, Nat.le_refl _⟩ hO hk hB hS (vk_recv z1 hi hS) rfl hl.1 (Nat.le_of_ble_eq_true rfl) dJ0_length_8abf5_6 (fun locs1 hS1 => ?_)
  refine lv_ishr hx hb dJ0_length_8abf5_9 ?_
  rw [len_sh i hi]
  exact W.iret hx hb hr (fun t ht _ => ⟨rfl, ht⟩) hS1.2.2 dJ0_length_8abf5_10 hlk
end MJM
