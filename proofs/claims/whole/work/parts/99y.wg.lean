/-! ===== the small machine with any end: WgE, and the rows of Wp that are used so ===== -/
abbrev EG : Type := Program → Env → State → MethodId → Array Value → List Frame → Method → Code → State → Prop
def WgE (K : KK) (d : Nat) (y : MI) (mc ms pc : Nat) (L : List (Option AV)) (S : List AV) (cl sl : Nat) (sh : List SC) (V : Mem) (G : EG) : Prop :=
  ∀ (p : Program) (e : Env) (s : State) (m : MethodId) (args : Array Value) (below : List Frame) (meth : Method) (c : Code) (H : Heap) (locs : List Loc) (ls : Array Slot),
    Cx K y p s m args meth c → Rel K sh V H → va_S (kA K) s.heap H locs → lvP K ls y.2.2.1 L → (∀ v ∈ S, okv v) →
    W p (kL K) e (rmO d mc ms) s m args below meth c H locs cl sl (G p e s m args below meth c) (F0 m pc ls (S.map (cv K)))
section WG
variable {K : KK} {d : Nat} {y : MI} {mc ms pc : Nat} {L : List (Option AV)} {S : List AV} {cl sl : Nat} {sh : List SC} {V : Mem} {G : EG}
theorem wge_iconst {n : Int} (hd : decode y.2.1 pc = .ok (.iconst n, 1)) (hr : -128 ≤ n ∧ n < 128) (h : WgE K d y mc ms (pc + 1) L (vI n :: S) cl sl sh V G) : WgE K d y mc ms pc L S cl sl sh V G := by
  intro p e s m args below meth c H locs ls hC hR hS hL hV
  have hx := hC.1
  have hb := hC.2.1
  refine lv_iconst hx hb hd rfl ?_
  exact h p e s m args below meth c H locs ls hC hR hS hL (okS_c (show r32 n from ⟨by omega, by omega⟩) hV)
theorem wge_aload_n {n : Fin 4} {k : Nat} {x : Nat} (hd : decode y.2.1 pc = .ok (.aload_n n, 1)) (hn : (n : Nat) = k) (hk : L[k]? = some (some (vR x))) (h : WgE K d y mc ms (pc + 1) L (vR x :: S) cl sl sh V G) : WgE K d y mc ms pc L S cl sl sh V G := by
  intro p e s m args below meth c H locs ls hC hR hS hL hV
  have hx := hC.1
  have hb := hC.2.1
  refine lv_aload_n hx hb hd hn (hL.2.2 k _ hk).1 ?_
  exact h p e s m args below meth c H locs ls hC hR hS hL (okS_c (hL.2.2 k _ hk).2 hV)
theorem wge_aload_nN {n : Fin 4} {k : Nat} (hd : decode y.2.1 pc = .ok (.aload_n n, 1)) (hn : (n : Nat) = k) (hk : L[k]? = some (some vN)) (h : WgE K d y mc ms (pc + 1) L (vN :: S) cl sl sh V G) : WgE K d y mc ms pc L S cl sl sh V G := by
  intro p e s m args below meth c H locs ls hC hR hS hL hV
  have hx := hC.1
  have hb := hC.2.1
  refine lv_aload_nN hx hb hd hn (hL.2.2 k _ hk).1 ?_
  exact h p e s m args below meth c H locs ls hC hR hS hL (okS_c (hL.2.2 k _ hk).2 hV)
theorem wge_iload_n {n : Fin 4} {k : Nat} {x : Int} (hd : decode y.2.1 pc = .ok (.iload_n n, 1)) (hn : (n : Nat) = k) (hk : L[k]? = some (some (vI x))) (h : WgE K d y mc ms (pc + 1) L (vI x :: S) cl sl sh V G) : WgE K d y mc ms pc L S cl sl sh V G := by
  intro p e s m args below meth c H locs ls hC hR hS hL hV
  have hx := hC.1
  have hb := hC.2.1
  refine lv_iload_n hx hb hd hn (hL.2.2 k _ hk).1 ?_
  exact h p e s m args below meth c H locs ls hC hR hS hL (okS_c (hL.2.2 k _ hk).2 hV)
theorem wge_istore {k : Nat} {x : Int} (hd : decode y.2.1 pc = .ok (.istore k, 2)) (hk : k < y.2.2.1) (hg : nlg L k = true) (h : WgE K d y mc ms (pc + 2) (L.set k (some (vI x))) S cl sl sh V G) : WgE K d y mc ms pc L (vI x :: S) cl sl sh V G := by
  intro p e s m args below meth c H locs ls hC hR hS hL hV
  have hx := hC.1
  have hb := hC.2.1
  refine lv_istore (lv := al K L) hx hb hd hL.has hk rfl (fun ls2 hl2 => ?_)
  exact h p e s m args below meth c H locs ls2 hC hR hS (hL.st1 (okS_h hV) hg hl2) (okS_t hV)
theorem wge_astore_n {n : Fin 4} {k : Nat} {x : Nat} (hd : decode y.2.1 pc = .ok (.astore_n n, 1)) (hn : (n : Nat) = k) (hk : k < y.2.2.1) (hg : nlg L k = true) (h : WgE K d y mc ms (pc + 1) (L.set k (some (vR x))) S cl sl sh V G) : WgE K d y mc ms pc L (vR x :: S) cl sl sh V G := by
  intro p e s m args below meth c H locs ls hC hR hS hL hV
  have hx := hC.1
  have hb := hC.2.1
  refine lv_astore_n (lv := al K L) hx hb hd hn hL.has hk rfl (fun ls2 hl2 => ?_)
  exact h p e s m args below meth c H locs ls2 hC hR hS (hL.st1 (okS_h hV) hg hl2) (okS_t hV)
theorem wge_astore_nN {n : Fin 4} {k : Nat}  (hd : decode y.2.1 pc = .ok (.astore_n n, 1)) (hn : (n : Nat) = k) (hk : k < y.2.2.1) (hg : nlg L k = true) (h : WgE K d y mc ms (pc + 1) (L.set k (some (vN))) S cl sl sh V G) : WgE K d y mc ms pc L (vN :: S) cl sl sh V G := by
  intro p e s m args below meth c H locs ls hC hR hS hL hV
  have hx := hC.1
  have hb := hC.2.1
  refine lv_astore_nN (lv := al K L) hx hb hd hn hL.has hk rfl (fun ls2 hl2 => ?_)
  exact h p e s m args below meth c H locs ls2 hC hR hS (hL.st1 (okS_h hV) hg hl2) (okS_t hV)
theorem wge_dup {v : AV} (hd : decode y.2.1 pc = .ok (.dup, 1)) (hv : c1 v = true) (h : WgE K d y mc ms (pc + 1) L (v :: v :: S) cl sl sh V G) : WgE K d y mc ms pc L (v :: S) cl sl sh V G := by
  intro p e s m args below meth c H locs ls hC hR hS hL hV
  have hx := hC.1
  have hb := hC.2.1
  refine lv_dup hx hb hd (c1_cat hv) ?_
  exact h p e s m args below meth c H locs ls hC hR hS hL (okS_c (okS_h hV) hV)
theorem wge_if_ne {x off : Int} {tgt : Nat} (hd : decode y.2.1 pc = .ok (.ifCond .ne off, 3)) (ht : (pc : Int) + off = (tgt : Int)) (h1 : ¬ x = 0 → WgE K d y mc ms tgt L S cl sl sh V G) (h2 : x = 0 → WgE K d y mc ms (pc + 3) L S cl sl sh V G) : WgE K d y mc ms pc L (vI x :: S) cl sl sh V G := by
  intro p e s m args below meth c H locs ls hC hR hS hL hV
  have hx := hC.1
  have hb := hC.2.1
  have rx : r32 x := okS_h hV
  have rz : r32 0 := r32_0
  refine lv_if_ne hx hb hd ht (fun q => ?_) (fun q => ?_)
  · rw [i32_0] at q
    exact h1 ((not_congr (i32_eq rx rz)).mp q) p e s m args below meth c H locs ls hC hR hS hL (okS_t hV)
  · rw [i32_0] at q
    exact h2 ((i32_eq rx rz).mp q) p e s m args below meth c H locs ls hC hR hS hL (okS_t hV)
theorem wge_ifnull {a : Nat} {off : Int} (hd : decode y.2.1 pc = .ok (.ifnull off, 3)) (h : WgE K d y mc ms (pc + 3) L S cl sl sh V G) : WgE K d y mc ms pc L (vR a :: S) cl sl sh V G := by
  intro p e s m args below meth c H locs ls hC hR hS hL hV
  have hx := hC.1
  have hb := hC.2.1
  refine lv_ifnull hx hb hd ?_
  exact h p e s m args below meth c H locs ls hC hR hS hL (okS_t hV)
theorem wge_ifnullN {off : Int} {tgt : Nat} (hd : decode y.2.1 pc = .ok (.ifnull off, 3)) (ht : (pc : Int) + off = (tgt : Int)) (h : WgE K d y mc ms tgt L S cl sl sh V G) : WgE K d y mc ms pc L (vN :: S) cl sl sh V G := by
  intro p e s m args below meth c H locs ls hC hR hS hL hV
  have hx := hC.1
  have hb := hC.2.1
  refine lv_ifnullN hx hb hd ht ?_
  exact h p e s m args below meth c H locs ls hC hR hS hL (okS_t hV)
theorem wge_get {idx a c k n : Nat} {rs : List (Option Nat)} (hd : decode y.2.1 pc = .ok (.getfield idx, 3)) (hf : FLD y.1.cls idx c k) (hq : sh[a]? = some (c, n, rs)) (hk : k < n) (h : WgE K d y mc ms (pc + 3) L (av (fty c k) (rs.getD k none) (V a k) :: S) cl sl sh V G) : WgE K d y mc ms pc L (vR a :: S) cl sl sh V G := by
  intro p e s m args below meth c0 H locs ls hC hR hS hL hV
  have hx := hC.1
  have hb := hC.2.1
  obtain ⟨C, T, N, ⟨hc13, hcl, hin, hty, hnm⟩, hkN, hlk⟩ := hf
  have hts := hC.2.2.2.2.2.1
  have hK := hC.2.2.2.2.2.2.2.1
  have he := wsO_at (K := K) (V := V) hq
  rw [cE_o hc13] at he
  refine va_get (D := kD K) (cl := vwCl) (tys := tyL K) (ws := wsO K sh V) (ci := c) (C := C) (T := T) (N := N) hx hb (Ts := tb) hts hin hC.2.2.2.2.1 hK hR.1 a he hcl k hkN (hts _ hlk) (fun _ h9 => h9) (fs_at hk) hd ?_
  exact h p e s m args below meth c0 H locs ls hC hR hS hL (okS_c (okv_av ((okc_o hc13).mp (hR.2.1 a _ k hq hk))) (okS_t hV))
theorem wge_getR {idx a c k n b : Nat} {rs : List (Option Nat)} (hd : decode y.2.1 pc = .ok (.getfield idx, 3)) (hf : FLD y.1.cls idx c k) (hi : fk (fty c k) = 2) (hq : sh[a]? = some (c, n, rs)) (hk : k < n) (hr : rs.getD k none = some b) (h : WgE K d y mc ms (pc + 3) L (vR b :: S) cl sl sh V G) : WgE K d y mc ms pc L (vR a :: S) cl sl sh V G :=
  wge_get hd hf hq hk (by rw [av_2 hi, hr]; exact h)
theorem wge_callV {idx b cc n nn : Nat} {y' : MI} {as : List AV} {rs : List (Option Nat)} {d' mc' ms' : Nat} {Q' : Option AV → List SC → Mem → Prop} {S0 : List AV} (hd : decode y.2.1 pc = .ok (.invokevirtual idx, 3)) (hl : LKV y.1.cls idx y' cc n) (hM : Mt K d' y' mc' ms' (vR b :: as) sh V Q') (hdd : d' < d) (hq : sh[b]? = some (cc, nn, rs)) (hn : as.length = n) (hS0 : S0 = as.reverse ++ vR b :: S) (hW : cats S ≤ 8) (hm : cl + mc' ≤ mc ∧ sl + ms' ≤ ms)
    (h : ∀ (r : Option AV) (sh' : List SC) (V' : Mem), Q' r sh' V' → WgE K d y mc ms (pc + 3) L (r.toList ++ S) (cl + mc') (sl + ms') sh' V' G) : WgE K d y mc ms pc L S0 cl sl sh V G := by
  intro p e s m args below meth c H locs ls hC hR hS hL hV
  subst hS0
  obtain ⟨⟨hy, hcode, hini, hmx⟩, hlk, hin, hsel, hc13, T, N, hcl⟩ := hl
  have hts := hC.2.2.2.2.2.1
  have hokb : ∀ v ∈ as, okv v := fun v hv => hV v (List.mem_append_left _ (List.mem_reverse.mpr hv))
  have hokS : ∀ v ∈ S, okv v := fun v hv => hV v (List.mem_append_right _ (List.mem_cons_of_mem _ hv))
  have hG : GoodIn tb (Cond.code y'.1 y'.2.1 y'.2.2.1 y'.2.2.2 :: tb) := fun w hw => (List.mem_cons.mp hw).elim (fun q => q ▸ tb_good hcode) tb_good
  have cw : CallW (rmO d mc ms) s args y.1.cls y'.1.cls idx y'.1 y'.2.1 y'.2.2.1 y'.2.2.2 (Cond.code y'.1 y'.2.1 y'.2.2.1 y'.2.2.2 :: tb) (rmO d' mc' ms') mc' ms' n :=
    ⟨callB_of n hts hG rfl rfl rfl (hts _ hini) (hts _ hlk) hy ⟨by show d' + 1 ≤ d; omega, by show 8 + (y'.2.2.1 + 11) + 40 * d' ≤ 40 * d; omega⟩, hts _ hin, hts _ hsel⟩
  have he := wsO_at (K := K) (V := V) hq
  rw [cE_o hc13] at he
  have run := va_runV (R := rmO d mc ms) (below := below) (meth := meth) (e := e) (locs := locs) (cells := cl) (slots := sl) (H := H) (b := kB K + b) (As := as.map (cv K)) (rest := S.map (cv K)) (g := F0 m pc ls ((as.reverse ++ vR b :: S).map (cv K))) ⟨hC.1, hC.2.1, hC.2.2.2.1, hC.2.2.2.2.1, hts⟩ hM cw ⟨PcO.blind, va_recv hC.2.2.2.2.2.2.2.1 hR.1 hcl he, wp_pre (ls := ls) (as := vR b :: as) hC hR hS (okS_c trivial hokb)⟩ rfl (by rw [List.length_map]; exact hn) hL.1 (by show (as.reverse ++ vR b :: S).map (cv K) = _; rw [List.map_append, List.map_reverse]; rfl) (lv_room (by rw [cats_cv]; exact hW)) hd hm
  refine wp_run run hS (fun r sh' V' hQ hok H1 locs1 hR1 hS1 => ?_)
  exact h r sh' V' hQ p e s m args below meth c H1 locs1 ls hC hR1 hS1 hL (fun v hv => (List.mem_append.mp hv).elim (fun q => hok v (Option.mem_toList.mp q)) (hokS v))
theorem wge_callI {idx b n : Nat} {y' : MI} {as : List AV} {d' mc' ms' : Nat} {Q' : Option AV → List SC → Mem → Prop} {S0 : List AV} (hd : decode y.2.1 pc = .ok (.invokespecial idx, 3)) (hl : LKI y.1.cls idx y' n) (hM : Mt K d' y' mc' ms' (vR b :: as) sh V Q') (hdd : d' < d) (hn : as.length = n) (hS0 : S0 = as.reverse ++ vR b :: S) (hW : cats S ≤ 8) (hm : cl + mc' ≤ mc ∧ sl + ms' ≤ ms)
    (h : ∀ (r : Option AV) (sh' : List SC) (V' : Mem), Q' r sh' V' → WgE K d y mc ms (pc + 3) L (r.toList ++ S) (cl + mc') (sl + ms') sh' V' G) : WgE K d y mc ms pc L S0 cl sl sh V G := by
  intro p e s m args below meth c H locs ls hC hR hS hL hV
  subst hS0
  obtain ⟨⟨hy, hcode, hini, hmx⟩, hret, hlk, hin, hnm⟩ := hl
  have hts := hC.2.2.2.2.2.1
  have hokb : ∀ v ∈ as, okv v := fun v hv => hV v (List.mem_append_left _ (List.mem_reverse.mpr hv))
  have hokS : ∀ v ∈ S, okv v := fun v hv => hV v (List.mem_append_right _ (List.mem_cons_of_mem _ hv))
  have hG : GoodIn tb (Cond.code y'.1 y'.2.1 y'.2.2.1 y'.2.2.2 :: tb) := fun w hw => (List.mem_cons.mp hw).elim (fun q => q ▸ tb_good hcode) tb_good
  unfold Mt at hM
  rw [hret] at hG hM
  have hrm : (rmO d' mc' ms').frames + 1 ≤ (rmO d mc ms).frames ∧ 8 + (y'.2.2.1 + 11) + (rmO d' mc' ms').locals ≤ (rmO d mc ms).locals := ⟨by show d' + 1 ≤ d; omega, by show 8 + (y'.2.2.1 + 11) + 40 * d' ≤ 40 * d; omega⟩
  have run : va_Run p (kL K) e (rmO d mc ms) s m args below meth c H locs cl sl mc' ms' (F0 m pc ls ((as.reverse ++ vR b :: S).map (cv K))) (S.map (cv K)) (QcO K Q' ((vR b :: as).map (cv K)).toArray) (kA K) := by
    rcases hlk with hlk | ⟨host, hlk⟩
    · exact va_runI (n := n) (own := y.1.cls) (b := kB K + b) (As := as.map (cv K)) ⟨hC.1, hC.2.1, hC.2.2.2.1, hC.2.2.2.2.1, hts⟩ hM ⟨callB_of n hts hG rfl rfl rfl (hts _ hini) (hts _ hlk) hy hrm, hnm, hts _ hin⟩ ⟨PcO.blind, wp_pre (ls := ls) (as := vR b :: as) hC hR hS (okS_c trivial hokb)⟩ rfl (by rw [List.length_map]; exact hn) hL.1 (by show (as.reverse ++ vR b :: S).map (cv K) = _; rw [List.map_append, List.map_reverse]; rfl) (lv_room (by rw [cats_cv]; exact hW)) hd hm
    · exact va_runIN (n := n) (own := y.1.cls) (b := kB K + b) (As := as.map (cv K)) ⟨hC.1, hC.2.1, hC.2.2.2.1, hC.2.2.2.2.1, hts⟩ hM ⟨va_cnB n hts hG rfl rfl rfl (hC.2.2.2.2.2.2.2.2.2.2.2.1 _ hlk) (hts _ hini) hy hrm, hnm, hts _ hin⟩ ⟨PcO.blind, wp_pre (ls := ls) (as := vR b :: as) hC hR hS (okS_c trivial hokb)⟩ rfl (by rw [List.length_map]; exact hn) hL.1 (by show (as.reverse ++ vR b :: S).map (cv K) = _; rw [List.map_append, List.map_reverse]; rfl) (lv_room (by rw [cats_cv]; exact hW)) hd hm
  refine wp_run run hS (fun r sh' V' hQ hok H1 locs1 hR1 hS1 => ?_)
  exact h r sh' V' hQ p e s m args below meth c H1 locs1 ls hC hR1 hS1 hL (fun v hv => (List.mem_append.mp hv).elim (fun q => hok v (Option.mem_toList.mp q)) (hokS v))
theorem wge_new {idx c N : Nat} (hd : decode y.2.1 pc = .ok (.new idx, 3)) (hn : NEW y.1.cls idx c N) (hE : kE K = true) (hV : ∀ k, k < N → V sh.length k = 0) (hm : cl + 1 ≤ mc ∧ sl + N ≤ ms) (h : WgE K d y mc ms (pc + 3) L (vR sh.length :: S) (cl + 1) (sl + N) (sh ++ [(c, N, List.replicate N none)]) V G) : WgE K d y mc ms pc L S cl sl sh V G := by
  intro p e s m args below meth c0 H locs ls hC hR hS hL hSt
  obtain ⟨C, T, ⟨hc13, hcl, hin, hty, hnm⟩, h1, h2, h3, h4⟩ := hn
  have hts := hC.2.2.2.2.2.1
  have hK := hC.2.2.2.2.2.2.2.1
  have hKn := hK.1 c _ hcl
  refine W.newcK hC.1 hC.2.1 hC.2.2.2.2.1 (hts _ h1) (hts _ h2) (hts _ h3) rfl hd hm.1 hm.2 hKn.2.1 rfl fun H1 kC hkC e1 z1 o1 => ?_
  have hz := hR.2.2 hE
  rw [hz] at e1 z1 o1 ⊢
  refine h p e s m args below meth c0 H1 locs ls hC (hR.push hE (by rw [z1, hz]) (by rw [hz]; exact o1) ?_ hV) (vaS_push hS (by rw [z1, hz]) (by rw [hz]; exact o1)) hL (okS_c trivial hSt)
  rw [cE_o hc13]
  refine ⟨_, hcl, (u_born (fty c) hts hin hKn hkC e1 hty).to (fun j hj => ?_)⟩
  have e2 : vp_V ((List.range N).map (fun k => cv K (av (fty c k) ((List.replicate N none).getD k none) (V sh.length k)))) j = cv K (av (fty c j) ((List.replicate N none).getD j none) (V sh.length j)) := by
    unfold vp_V
    rw [List.getD_eq_getElem?_getD, fs_at hj]
    rfl
  rw [e2, hV j hj]
  have e3 : (List.replicate N (none : Option Nat)).getD j none = none := by
    rw [List.getD_eq_getElem?_getD, List.getElem?_replicate]
    split <;> rfl
  rw [e3, dv0 (h4 j hj)]
theorem wge_newa {c : Nat} {x : Int} (hc : c = 13 ∨ c = 14 ∨ c = 15 ∨ c = 16) (hd : decode y.2.1 pc = .ok (.newarray (atyO c), 2)) (hn : Cond.arrayClass (ftyO c) ∈ tb) (hE : kE K = true) (hx : 0 ≤ x ∧ x ≤ 100000) (hV : ∀ k, k < x.toNat → V sh.length k = 0) (hm : cl + 1 ≤ mc ∧ sl + x.toNat ≤ ms) (h : WgE K d y mc ms (pc + 2) L (vR sh.length :: S) (cl + 1) (sl + x.toNat) (sh ++ [(c, x.toNat, [])]) V G) : WgE K d y mc ms pc L (vI x :: S) cl sl sh V G := by
  intro p e s m args below meth c0 H locs ls hC hR hS hL hSt
  have hts := hC.2.2.2.2.2.1
  have hK := hC.2.2.2.2.2.2.2.1
  have rx : r32 x := okS_h hSt
  have hz := hR.2.2 hE
  have nn : ¬ Int32.ofInt x < 0 := fun q => by rw [i32_0, i32_lt rx r32_0] at q; omega
  have et : newarray.typeOf (atyO c) = ftyO c := by rcases hc with rfl | rfl | rfl | rfl <;> rfl
  have eb : x.toNat * componentBytes (ftyO c) ≤ 536870912 := by
    have : componentBytes (ftyO c) ≤ 8 := by rcases hc with rfl | rfl | rfl | rfl <;> decide
    calc x.toNat * componentBytes (ftyO c) ≤ 100000 * 8 := Nat.mul_le_mul (by omega) this
      _ ≤ 536870912 := by decide
  refine va_newaK (N := x.toNat) hC.1 hC.2.1 (by rw [et]; exact hts _ hn) rfl hd rfl nn (i32_cl rx) (by rw [et]; exact eb) hm.1 hm.2 rfl fun H1 cA e1 z1 o1 hAr hNm => ?_
  rw [et] at e1 hNm
  rw [hz] at e1 z1 o1 ⊢
  have ecA : cA = kY K c := by
    rcases hc with rfl | rfl | rfl | rfl
    · exact Option.some.inj (hNm.symm.trans (hK.2 0 _ rfl).2)
    · exact Option.some.inj (hNm.symm.trans (hK.2 1 _ rfl).2)
    · exact Option.some.inj (hNm.symm.trans (hK.2 2 _ rfl).2)
    · exact Option.some.inj (hNm.symm.trans (hK.2 3 _ rfl).2)
  subst ecA
  refine h p e s m args below meth c0 H1 locs ls hC (hR.push hE (by rw [z1, hz]) (by rw [hz]; exact o1) ?_ hV) (vaS_push hS (by rw [z1, hz]) (by rw [hz]; exact o1)) hL (okS_c trivial (okS_t hSt))
  have ex : ∀ f : Nat → Value, (∀ j, j < x.toNat → f j = defaultValue (ftyO c)) → arrV (kY K c) x.toNat (fun _ => defaultValue (ftyO c)) = arrV (kY K c) x.toNat f := fun f hf => by
    unfold arrV
    congr 2
    funext j
    exact (hf j.1 j.2).symm
  rcases hc with rfl | rfl | rfl | rfl
  · show H1[kB K + sh.length]? = some (arrV (kY K 13) x.toNat (fun j => .int (Int32.ofInt (V sh.length j))))
    rw [e1]
    exact congrArg some (ex _ (fun j hj => by rw [hV j hj]; rfl))
  · show H1[kB K + sh.length]? = some (arrV (kY K 14) x.toNat (fun j => .int (Int32.ofInt (V sh.length j))))
    rw [e1]
    exact congrArg some (ex _ (fun j hj => by rw [hV j hj]; rfl))
  · show H1[kB K + sh.length]? = some (arrV (kY K 15) x.toNat (fun j => .long (Int64.ofInt (V sh.length j))))
    rw [e1]
    exact congrArg some (ex _ (fun j hj => by rw [hV j hj]; rfl))
  · show H1[kB K + sh.length]? = some (arrV (kY K 16) x.toNat (fun j => .int (Int32.ofInt (V sh.length j))))
    rw [e1]
    exact congrArg some (ex _ (fun j hj => by rw [hV j hj]; rfl))
end WG
