/-! ===== the constructors' rows: a world with its newest cells behind ===== -/
def ZV (V : Mem) (m : Nat) : Prop := ∀ b, m ≤ b → ∀ j, V b j = 0
theorem ZV.mono {V : Mem} {m n : Nat} (h : ZV V m) (hn : m ≤ n) : ZV V n := fun b hb => h b (by omega)
theorem ZV.up {V : Mem} {m a k : Nat} {x : Int} (h : ZV V m) (ha : a < m) : ZV (upm V a k x) m := fun b hb j => by rw [upm_a (by omega)]; exact h b hb j
theorem ap_at {pre T : List SC} {n0 i : Nat} {q : SC} (hp : pre.length = n0) (h : T[i]? = some q) : (pre ++ T)[n0 + i]? = some q := by
  subst hp
  rw [List.getElem?_append_right (by omega)]
  simpa using h
theorem ap_set {pre T : List SC} {n0 i : Nat} {q : SC} (hp : pre.length = n0) : (pre ++ T).set (n0 + i) q = pre ++ T.set i q := by
  subst hp
  rw [List.set_append, if_neg (by omega)]
  simp
theorem ap_len {pre T : List SC} {n0 t : Nat} (hp : pre.length = n0) (hT : T.length = t) : (pre ++ T).length = n0 + t := by
  rw [List.length_append, hp, hT]
/-- a constructor's contract: its object is the newest cell -/
def IC (K : KK) (d : Nat) (y : MI) (mc ms c N : Nat) (as : List AV) (cells : Nat → List SC) (mem : Nat → Mem → Mem) : Prop := ∀ (pre : List SC) (n0 : Nat) (V : Mem), pre.length = n0 → ZV V (n0 + 1) → Mt K d y mc ms (vR n0 :: as) (pre ++ [(c, N, List.replicate N none)]) V (fun r sh' V' => r = none ∧ sh' = pre ++ cells n0 ∧ V' = mem n0 V)
section WPV
variable {K : KK} {d : Nat} {y : MI} {mc ms pc : Nat} {L : List (Option AV)} {S : List AV} {cl sl : Nat} {V : Mem} {Q : Option AV → List SC → Mem → Prop} {pre T : List SC} {n0 t i : Nat}
theorem wt_new {idx c N : Nat} (hp : pre.length = n0) (hT : T.length = t) (hd : decode y.2.1 pc = .ok (.new idx, 3)) (hn : NEW y.1.cls idx c N) (hE : kE K = true) (hV : ZV V (n0 + t)) (hm : cl + 1 ≤ mc ∧ sl + N ≤ ms) (h : Wp K d y mc ms (pc + 3) L (vR (n0 + t) :: S) (cl + 1) (sl + N) (pre ++ (T ++ [(c, N, List.replicate N none)])) V Q) : Wp K d y mc ms pc L S cl sl (pre ++ T) V Q := by
  have e := ap_len hp hT
  refine wp_new hd hn hE (fun k _ => by rw [e]; exact hV _ (Nat.le_refl _) k) hm ?_
  rw [e, List.append_assoc]
  exact h
theorem wt_newa {c : Nat} {x : Int} (hp : pre.length = n0) (hT : T.length = t) (hc : c = 13 ∨ c = 14 ∨ c = 15 ∨ c = 16) (hd : decode y.2.1 pc = .ok (.newarray (atyO c), 2)) (hn : Cond.arrayClass (ftyO c) ∈ tb) (hE : kE K = true) (hx : 0 ≤ x ∧ x ≤ 100000) (hV : ZV V (n0 + t)) (hm : cl + 1 ≤ mc ∧ sl + x.toNat ≤ ms) (h : Wp K d y mc ms (pc + 2) L (vR (n0 + t) :: S) (cl + 1) (sl + x.toNat) (pre ++ (T ++ [(c, x.toNat, [])])) V Q) : Wp K d y mc ms pc L (vI x :: S) cl sl (pre ++ T) V Q := by
  have e := ap_len hp hT
  refine wp_newa hc hd hn hE hx (fun k _ => by rw [e]; exact hV _ (Nat.le_refl _) k) hm ?_
  rw [e, List.append_assoc]
  exact h
theorem wt_anew {c idx : Nat} {x : Int} (hp : pre.length = n0) (hT : T.length = t) (hc : c = 17 ∨ c = 18 ∨ c = 19) (hd : decode y.2.1 pc = .ok (.anewarray idx, 3)) (hn : Cond.classLink y.1.cls idx (clO c) ∈ tb) (hO : ∀ U H, kZ K U H → va_AO (clO c) U) (hE : kE K = true) (hx : 0 ≤ x ∧ x ≤ 100000) (hV : ZV V (n0 + t)) (hm : cl + 1 ≤ mc ∧ sl + x.toNat ≤ ms) (h : Wp K d y mc ms (pc + 3) L (vR (n0 + t) :: S) (cl + 1) (sl + x.toNat) (pre ++ (T ++ [(c, x.toNat, List.replicate x.toNat none)])) V Q) : Wp K d y mc ms pc L (vI x :: S) cl sl (pre ++ T) V Q := by
  have e := ap_len hp hT
  refine wp_anew hc hd hn hO hE hx hm (fun k _ => by rw [e]; exact hV _ (Nat.le_refl _) k) ?_
  rw [e, List.append_assoc]
  exact h
theorem wt_multi {idx n k : Nat} (hp : pre.length = n0) (hT : T.length = t) (hd : decode y.2.1 pc = .ok (.multianewarray idx 2, 4)) (hn : Cond.classLink y.1.cls idx "[[I" ∈ tb) (ha : Cond.arrayClass .int ∈ tb) (hO : ∀ U H, kZ K U H → va_AOA U) (hE : kE K = true) (hx : n ≤ 1000 ∧ k ≤ 1000) (hm : cl + 1 + n ≤ mc ∧ sl + n + n * k ≤ ms) (hV : ZV V (n0 + t)) (h : Wp K d y mc ms (pc + 4) L (vR (n0 + t) :: S) (cl + 1 + n) (sl + n + n * k) (pre ++ (T ++ ((20, n, (List.range n).map (fun j => some (n0 + t + 1 + j))) :: List.replicate n (14, k, [])))) V Q) : Wp K d y mc ms pc L (vI (k : Int) :: vI (n : Int) :: S) cl sl (pre ++ T) V Q := by
  have e := ap_len hp hT
  refine wp_multi hd hn ha hO hE hx hm (fun b hb j => hV b (by omega) j) ?_
  rw [e, List.append_assoc]
  exact h
theorem wt_putF {idx a b c k n : Nat} {rs : List (Option Nat)} (hp : pre.length = n0) (ha : a = n0 + i) (hd : decode y.2.1 pc = .ok (.putfield idx, 3)) (hf : FLF y.1.cls idx c k) (hi : fk (fty c k) = 2) (hy : y.1.name = "<init>") (hq : T[i]? = some (c, n, rs)) (hk : k < n) (hl : k < rs.length) (h : Wp K d y mc ms (pc + 3) L S cl sl (pre ++ T.set i (c, n, rs.set k (some b))) V Q) : Wp K d y mc ms pc L (vR b :: vR a :: S) cl sl (pre ++ T) V Q := by
  subst ha
  refine wp_putF hd hf hi hy (ap_at hp hq) hk hl ?_
  rw [ap_set hp]
  exact h
theorem wt_aast {a v c n nn j : Nat} {rs rs' : List (Option Nat)} {x : Int} (hp : pre.length = n0) (ha : a = n0 + i) (hv : v = n0 + j) (hc : c = 17 ∨ c = 18 ∨ c = 19) (hd : decode y.2.1 pc = .ok (.aastore, 1)) (hq : T[i]? = some (c, n, rs)) (hq2 : T[j]? = some (ccO c, nn, rs')) (hi : 0 ≤ x ∧ x < n) (hl : rs.length = n) (h : Wp K d y mc ms (pc + 1) L S cl sl (pre ++ T.set i (c, n, rs.set x.toNat (some v))) V Q) : Wp K d y mc ms pc L (vR v :: vI x :: vR a :: S) cl sl (pre ++ T) V Q := by
  subst ha
  subst hv
  refine wp_aast hc hd (ap_at hp hq) (ap_at hp hq2) hi hl ?_
  rw [ap_set hp]
  exact h
theorem wt_init {idx n c N d' mc' ms' : Nat} {y' : MI} {as : List AV} {cells : Nat → List SC} {mem : Nat → Mem → Mem} {S0 : List AV} (hp : pre.length = n0) (hT : T.length = t) (hd : decode y.2.1 pc = .ok (.invokespecial idx, 3)) (hl : LKI y.1.cls idx y' n) (hM : IC K d' y' mc' ms' c N as cells mem) (hdd : d' < d) (hn : as.length = n) (hV : ZV V (n0 + t + 1)) (hS0 : S0 = as.reverse ++ vR (n0 + t) :: S) (hW : cats S ≤ 8) (hm : cl + mc' ≤ mc ∧ sl + ms' ≤ ms) (h : Wp K d y mc ms (pc + 3) L S (cl + mc') (sl + ms') (pre ++ (T ++ cells (n0 + t))) (mem (n0 + t) V) Q) : Wp K d y mc ms pc L S0 cl sl (pre ++ (T ++ [(c, N, List.replicate N none)])) V Q := by
  have hM' := hM (pre ++ T) (n0 + t) V (ap_len hp hT) hV
  rw [List.append_assoc] at hM'
  refine wp_callI hd hl hM' hdd hn hS0 hW hm ?_
  rintro r sh' V' ⟨rfl, rfl, rfl⟩
  rw [List.append_assoc]
  exact h
end WPV
