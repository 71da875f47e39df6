/-! ===== rows of the law: an int of the script, not zero?, its own weight ===== -/
abbrev mL (nm : String) : MI := (⟨RL, nm, "([I)Z"⟩, cL_law, 7, some .boolean)
/-- an int of the script -/
def sc (K : KK) (i : Nat) : Int := (kX K i).toInt
section LRW
variable {K : KK} {d : Nat} {y : MI} {mc ms pc : Nat} {L : List (Option AV)} {S : List AV} {cl sl : Nat} {sh : List SC} {V : Mem} {Q : Option AV → List SC → Mem → Prop} {j : Nat} {nm : String}
theorem sc_ix {n : Nat} (hn : n < 7) (hj : 7 * j + 7 ≤ kN K) (hN : kN K ≤ 3584) : w32 (((7 * j : Nat) : Int) + (n : Int)) = ((7 * j + n : Nat) : Int) := by
  rw [w32_id (by omega) (by omega)]; omega
theorem wl_arg {n : Nat} (h0 : decode y.2.1 pc = .ok (.aload_n 0, 1)) (h1 : decode y.2.1 (pc + 1) = .ok (.iload 4, 2)) (h2 : decode y.2.1 (pc + 3) = .ok (.iconst (n : Int), 1)) (h3 : decode y.2.1 (pc + 4) = .ok (.iadd, 1)) (h4 : decode y.2.1 (pc + 5) = .ok (.iaload, 1)) (l0 : L[0]? = some (some vS)) (l4 : L[4]? = some (some (vI ((7 * j : Nat) : Int)))) (hn : n < 7) (hj : 7 * j + 7 ≤ kN K) (hN : kN K ≤ 3584) (h : Wp K d y mc ms (pc + 6) L (vI (sc K (7 * j + n)) :: S) cl sl sh V Q) : Wp K d y mc ms pc L S cl sl sh V Q := by
  refine wp_aload_nS h0 rfl l0 ?_
  refine wp_iload h1 l4 ?_
  refine wp_iconst h2 ⟨by omega, by omega⟩ ?_
  refine wp_iadd h3 ?_
  rw [sc_ix hn hj hN]
  refine wp_sld h4 ⟨by omega, by omega⟩ ?_
  rw [tn]
  exact h
theorem wl_argb {n : Nat} (h0 : decode y.2.1 pc = .ok (.aload_n 0, 1)) (h1 : decode y.2.1 (pc + 1) = .ok (.iload 4, 2)) (h2 : decode y.2.1 (pc + 3) = .ok (.bipush (n : Int), 2)) (h3 : decode y.2.1 (pc + 5) = .ok (.iadd, 1)) (h4 : decode y.2.1 (pc + 6) = .ok (.iaload, 1)) (l0 : L[0]? = some (some vS)) (l4 : L[4]? = some (some (vI ((7 * j : Nat) : Int)))) (hn : n < 7) (hj : 7 * j + 7 ≤ kN K) (hN : kN K ≤ 3584) (h : Wp K d y mc ms (pc + 7) L (vI (sc K (7 * j + n)) :: S) cl sl sh V Q) : Wp K d y mc ms pc L S cl sl sh V Q := by
  refine wp_aload_nS h0 rfl l0 ?_
  refine wp_iload h1 l4 ?_
  refine wp_bipush h2 ⟨by omega, by omega⟩ ?_
  refine wp_iadd h3 ?_
  rw [sc_ix hn hj hN]
  refine wp_sld h4 ⟨by omega, by omega⟩ ?_
  rw [tn]
  exact h
theorem wl_nz {x : Int} (h0 : decode y.2.1 pc = .ok (.ifCond .eq 7, 3)) (h1 : decode y.2.1 (pc + 3) = .ok (.iconst 1, 1)) (h2 : decode y.2.1 (pc + 4) = .ok (.goto 4, 3)) (h3 : decode y.2.1 (pc + 7) = .ok (.iconst 0, 1)) (h : Wp K d y mc ms (pc + 8) L (vI (if x = 0 then 0 else 1) :: S) cl sl sh V Q) : Wp K d y mc ms pc L (vI x :: S) cl sl sh V Q := by
  refine wp_if_eq (tgt := pc + 7) h0 (by omega) (fun c => ?_) (fun c => ?_)
  · rw [if_pos c] at h
    exact wp_iconst h3 (by decide) h
  · rw [if_neg c] at h
    refine wp_iconst h1 (by decide) ?_
    exact wp_goto (tgt := pc + 8) h2 (by omega) h
theorem wl_weight {as S0 : List AV} {d' : Nat} {Q1 : Int → Mem → Prop} (hcls : y.1.cls = RL) (hd : decode y.2.1 pc = .ok (.invokestatic 43, 3)) (hM : MLw K d' as V Q1) (hdd : d' < d) (hn : as.length = 4) (hS0 : S0 = as.reverse ++ S) (hW : cats S ≤ 8) (hm : cl + 1 ≤ mc ∧ sl + 6 ≤ ms) (h : ∀ z V', Q1 z V' → Wp K d y mc ms (pc + 3) L (vI z :: S) (cl + 1) (sl + 6) SH V' Q) : Wp K d y mc ms pc L S0 cl sl SH V Q := by
  intro p e s m args below meth c H locs ls hC hR hS hL hV
  subst hS0
  have hts := hC.2.2.2.2.2.1
  have hokb : ∀ v ∈ as, okv v := fun v hv => hV v (List.mem_append_left _ (List.mem_reverse.mpr hv))
  have hokS : ∀ v ∈ S, okv v := fun v hv => hV v (List.mem_append_right _ hv)
  have hG : GoodIn tb (Cond.codeWith yL_weight cL_weight 5 (some .int) [(0, 10, 13, 13)] :: tb) := fun w hw => (List.mem_cons.mp hw).elim (fun q => q ▸ tb_good ww_code) tb_good
  have hown : s.vm.findClass RL = some m.cls := by rw [← hcls]; exact hC.2.2.2.2.1
  have hG2 : GoodIn tb (va_wsS RL 43 yL_weight (Cond.codeWith yL_weight cL_weight 5 (some .int) [(0, 10, 13, 13)] :: tb)) := by
    intro w hw
    unfold va_wsS at hw
    rcases List.mem_append.mp hw with q | q
    · simp only [List.mem_cons, List.not_mem_nil, or_false] at q
      rcases q with rfl | rfl | rfl
      · exact tb_good ww_link
      · exact tb_good ww_stat
      · exact tb_good ww_init
    · exact hG w q
  have cw : vx_CSW (rmO d mc ms) s args RL 43 yL_weight cL_weight 5 (some .int) [(0, 10, 13, 13)] (Cond.codeWith yL_weight cL_weight 5 (some .int) [(0, 10, 13, 13)] :: tb) (rmO d' 1 6) 1 6 4 :=
    vx_cwSW 4 hts hG2 rfl rfl rfl (by decide +kernel) ⟨by show d' + 1 ≤ d; omega, by show 8 + (5 + 11) + 40 * d' ≤ 40 * d; omega⟩
  have run := vx_runSW (R := rmO d mc ms) (below := below) (meth := meth) (e := e) (locs := locs) (cells := cl) (slots := sl) (H := H) (As := as.map (cv K)) (rest := S.map (cv K)) (g := F0 m pc ls ((as.reverse ++ S).map (cv K))) ⟨hC.1, hC.2.1, hC.2.2.2.1, hown, hts⟩ hM cw ⟨PcO.blind, wp_pre (ls := ls) hC hR hS hokb⟩ rfl (by rw [List.length_map]; exact hn) hL.1 (by show (as.reverse ++ S).map (cv K) = _; rw [List.map_append, List.map_reverse]) (lv_room (by rw [cats_cv]; exact hW)) hd hm
  refine wp_run run hS (fun r sh' V' hQ hok H1 locs1 hR1 hS1 => ?_)
  obtain ⟨rfl, z, rfl, hq⟩ := hQ
  exact h z V' hq p e s m args below meth c H1 locs1 ls hC hR1 hS1 hL (okS_c (hok _ rfl) hokS)
end LRW
