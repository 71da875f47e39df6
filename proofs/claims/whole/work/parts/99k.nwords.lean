/-! ===== words for what is made ===== -/
/-- what the tables say of arrays of ours -/
def OKZ (U : State) : Prop := va_AO "ChainIndex$Braid" U ∧ va_AO "ChainIndex$Row" U ∧ va_AO "ChainIndex$Store" U ∧ va_AOA U
theorem wt_iinc {K : KK} {d : Nat} {y : MI} {mc ms pc : Nat} {L : List (Option AV)} {S : List AV} {cl sl : Nat} {sh : List SC} {V : Mem} {Q : Option AV → List SC → Mem → Prop} {k : Nat} {x n z : Int} (hd : decode y.2.1 pc = .ok (.iinc k n, 3)) (hk : L[k]? = some (some (vI x))) (hg : nlg L k = true) (he : w32 (x + n) = z) (h : Wp K d y mc ms (pc + 3) (L.set k (some (vI z))) S cl sl sh V Q) : Wp K d y mc ms pc L S cl sl sh V Q := wp_iinc hd hk hg (by rw [he]; exact h)
theorem wt_nrm {K : KK} {d : Nat} {y : MI} {mc ms pc : Nat} {L L2 : List (Option AV)} {S : List AV} {cl sl cl2 sl2 : Nat} {pre T T2 : List SC} {V : Mem} {Q : Option AV → List SC → Mem → Prop} (hL : L = L2) (hT : T = T2) (hc : cl = cl2) (hs : sl = sl2) (h : Wp K d y mc ms pc L2 S cl2 sl2 (pre ++ T2) V Q) : Wp K d y mc ms pc L S cl sl (pre ++ T) V Q := by
  subst hL; subst hT; subst hc; subst hs
  exact h
theorem nwa_char : Cond.arrayClass .char ∈ tb := tb_k1 (List.mem_of_getElem? (i := 127) rfl) rfl
theorem nwa_int : Cond.arrayClass .int ∈ tb := tb_k1 (List.mem_of_getElem? (i := 176) rfl) rfl
theorem nwa_long : Cond.arrayClass .long ∈ tb := tb_k1 (List.mem_of_getElem? (i := 128) rfl) rfl
theorem nwa_boolean : Cond.arrayClass .boolean ∈ tb := tb_k1 (List.mem_of_getElem? (i := 177) rfl) rfl
theorem nwc_X2_9 : Cond.classLink RX2 9 "ChainIndex$Braid" ∈ tb := tb_k2 (List.mem_of_getElem? (i := 158) rfl) rfl
theorem nw_X2_9 : NEW RX2 9 0 4 := ⟨RX0, TX0, clsX0, nwc_X2_9, tb_k1 (List.mem_of_getElem? (i := 178) rfl) rfl, tb_k1 (List.mem_of_getElem? (i := 10) rfl) rfl, by decide +kernel⟩
theorem nwc_X2_21 : Cond.classLink RX2 21 "[[I" ∈ tb := tb_k2 (List.mem_of_getElem? (i := 160) rfl) rfl
theorem nwc_X5_9 : Cond.classLink RX5 9 "ChainIndex$Store" ∈ tb := tb_k1 (List.mem_of_getElem? (i := 136) rfl) rfl
theorem nw_X5_9 : NEW RX5 9 7 8 := ⟨RX7, TX7, clsX7, nwc_X5_9, tb_k1 (List.mem_of_getElem? (i := 137) rfl) rfl, tb_k1 (List.mem_of_getElem? (i := 8) rfl) rfl, by decide +kernel⟩
theorem nwc_X5_18 : Cond.classLink RX5 18 "ChainIndex$Law" ∈ tb := tb_k1 (List.mem_of_getElem? (i := 237) rfl) rfl
theorem nw_X5_18 : NEW RX5 18 4 3 := ⟨RX4, TX4, clsX4, nwc_X5_18, tb_k1 (List.mem_of_getElem? (i := 238) rfl) rfl, tb_k1 (List.mem_of_getElem? (i := 11) rfl) rfl, by decide +kernel⟩
theorem nwc_X5_25 : Cond.classLink RX5 25 "ChainIndex$Deeds" ∈ tb := tb_k2 (List.mem_of_getElem? (i := 14) rfl) rfl
theorem nw_X5_25 : NEW RX5 25 3 4 := ⟨RX3, TX3, clsX3, nwc_X5_25, tb_k2 (List.mem_of_getElem? (i := 15) rfl) rfl, tb_k1 (List.mem_of_getElem? (i := 12) rfl) rfl, by decide +kernel⟩
theorem nwc_X7_9 : Cond.classLink RX7 9 "ChainIndex$Row" ∈ tb := tb_k1 (List.mem_of_getElem? (i := 142) rfl) rfl
theorem nwc_X7_17 : Cond.classLink RX7 17 "ChainIndex$Braid" ∈ tb := tb_k1 (List.mem_of_getElem? (i := 144) rfl) rfl
theorem nw_X7_9 : NEW RX7 9 6 4 := ⟨RX6, TX6, clsX6, nwc_X7_9, tb_k1 (List.mem_of_getElem? (i := 146) rfl) rfl, tb_k1 (List.mem_of_getElem? (i := 9) rfl) rfl, by decide +kernel⟩
theorem nw_X7_17 : NEW RX7 17 0 4 := ⟨RX0, TX0, clsX0, nwc_X7_17, tb_k1 (List.mem_of_getElem? (i := 178) rfl) rfl, tb_k1 (List.mem_of_getElem? (i := 10) rfl) rfl, by decide +kernel⟩
theorem nwc_X8_9 : Cond.classLink RX8 9 "[[I" ∈ tb := tb_k2 (List.mem_of_getElem? (i := 141) rfl) rfl
theorem nwc_X10_9 : Cond.classLink RX10 9 "[[I" ∈ tb := tb_k2 (List.mem_of_getElem? (i := 123) rfl) rfl
theorem nwc_X11_7 : Cond.classLink RX11 7 "ChainIndex$Tape" ∈ tb := tb_k1 (List.mem_of_getElem? (i := 33) rfl) rfl
theorem nw_X11_7 : NEW RX11 7 9 9 := ⟨RX9, TX9, clsX9, nwc_X11_7, tb_k1 (List.mem_of_getElem? (i := 34) rfl) rfl, tb_k1 (List.mem_of_getElem? (i := 2) rfl) rfl, by decide +kernel⟩
theorem nwc_X11_16 : Cond.classLink RX11 16 "ChainIndex$Reader" ∈ tb := tb_k1 (List.mem_of_getElem? (i := 130) rfl) rfl
theorem nw_X11_16 : NEW RX11 16 5 10 := ⟨RX5, TX5, clsX5, nwc_X11_16, tb_k1 (List.mem_of_getElem? (i := 131) rfl) rfl, tb_k1 (List.mem_of_getElem? (i := 7) rfl) rfl, by decide +kernel⟩
theorem nwc_X11_23 : Cond.classLink RX11 23 "ChainIndex$Store" ∈ tb := tb_k2 (List.mem_of_getElem? (i := 72) rfl) rfl
theorem nw_X11_23 : NEW RX11 23 7 8 := ⟨RX7, TX7, clsX7, nwc_X11_23, tb_k1 (List.mem_of_getElem? (i := 137) rfl) rfl, tb_k1 (List.mem_of_getElem? (i := 8) rfl) rfl, by decide +kernel⟩
theorem nwc_X11_44 : Cond.classLink RX11 44 "ChainIndex$Law" ∈ tb := tb_k2 (List.mem_of_getElem? (i := 75) rfl) rfl
theorem nw_X11_44 : NEW RX11 44 4 3 := ⟨RX4, TX4, clsX4, nwc_X11_44, tb_k1 (List.mem_of_getElem? (i := 238) rfl) rfl, tb_k1 (List.mem_of_getElem? (i := 11) rfl) rfl, by decide +kernel⟩
theorem nwc_X11_51 : Cond.classLink RX11 51 "ChainIndex$Deeds" ∈ tb := tb_k2 (List.mem_of_getElem? (i := 77) rfl) rfl
theorem nw_X11_51 : NEW RX11 51 3 4 := ⟨RX3, TX3, clsX3, nwc_X11_51, tb_k2 (List.mem_of_getElem? (i := 15) rfl) rfl, tb_k1 (List.mem_of_getElem? (i := 12) rfl) rfl, by decide +kernel⟩
theorem nwc_X11_63 : Cond.classLink RX11 63 "ChainIndex$Chains" ∈ tb := tb_k2 (List.mem_of_getElem? (i := 79) rfl) rfl
theorem nw_X11_63 : NEW RX11 63 1 9 := ⟨RX1, TX1, clsX1, nwc_X11_63, tb_k2 (List.mem_of_getElem? (i := 80) rfl) rfl, tb_k1 (List.mem_of_getElem? (i := 14) rfl) rfl, by decide +kernel⟩
theorem nwc_X11_73 : Cond.classLink RX11 73 "ChainIndex$Windows" ∈ tb := tb_k2 (List.mem_of_getElem? (i := 117) rfl) rfl
theorem nw_X11_73 : NEW RX11 73 10 3 := ⟨RX10, TX10, clsX10, nwc_X11_73, tb_k2 (List.mem_of_getElem? (i := 118) rfl) rfl, tb_k1 (List.mem_of_getElem? (i := 15) rfl) rfl, by decide +kernel⟩
theorem nwc_X11_80 : Cond.classLink RX11 80 "ChainIndex$Tableau" ∈ tb := tb_k2 (List.mem_of_getElem? (i := 135) rfl) rfl
theorem nw_X11_80 : NEW RX11 80 8 3 := ⟨RX8, TX8, clsX8, nwc_X11_80, tb_k2 (List.mem_of_getElem? (i := 136) rfl) rfl, tb_k1 (List.mem_of_getElem? (i := 16) rfl) rfl, by decide +kernel⟩
theorem nwc_X11_87 : Cond.classLink RX11 87 "ChainIndex$Composer" ∈ tb := tb_k2 (List.mem_of_getElem? (i := 152) rfl) rfl
theorem nw_X11_87 : NEW RX11 87 2 6 := ⟨RX2, TX2, clsX2, nwc_X11_87, tb_k2 (List.mem_of_getElem? (i := 153) rfl) rfl, tb_k1 (List.mem_of_getElem? (i := 17) rfl) rfl, by decide +kernel⟩
theorem nwc_X11_94 : Cond.classLink RX11 94 "ChainIndex$Row" ∈ tb := tb_k2 (List.mem_of_getElem? (i := 182) rfl) rfl
theorem nw_X11_94 : NEW RX11 94 6 4 := ⟨RX6, TX6, clsX6, nwc_X11_94, tb_k1 (List.mem_of_getElem? (i := 146) rfl) rfl, tb_k1 (List.mem_of_getElem? (i := 9) rfl) rfl, by decide +kernel⟩
theorem nwc_L_8 : Cond.classLink RL 8 "ChainIndex" ∈ tb := tb_k1 (List.mem_of_getElem? (i := 25) rfl) rfl
theorem nw_L_8 : NEW RL 8 11 18 := ⟨RX11, TX11, clsX11, nwc_L_8, tb_k1 (List.mem_of_getElem? (i := 26) rfl) rfl, tb_k1 (List.mem_of_getElem? (i := 1) rfl) rfl, by decide +kernel⟩
theorem nwc_L_16 : Cond.classLink RL 16 "ChainIndexModel" ∈ tb := tb_k6 (List.mem_of_getElem? (i := 80) rfl) rfl
theorem nw_L_16 : NEW RL 16 12 42 := ⟨RX12, TX12, clsX12, nwc_L_16, tb_k6 (List.mem_of_getElem? (i := 78) rfl) rfl, tb_k1 (List.mem_of_getElem? (i := 18) rfl) rfl, by decide +kernel⟩
