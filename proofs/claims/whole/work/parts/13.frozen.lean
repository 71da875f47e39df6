/-! ===== the world behind the constructors: no cell is made any more ===== -/
abbrev Wf (K : KK) (d : Nat) (y : MI) (pc : Nat) (L : List (Option AV)) (S : List AV) (V : Mem) (Q : Option AV → Mem → Prop) : Prop := Wp K d y 0 0 pc L S 0 0 SH V (fun r sh' V' => sh' = SH ∧ Q r V')
abbrev Mf (K : KK) (d : Nat) (y : MI) (as : List AV) (V : Mem) (Q : Option AV → Mem → Prop) : Prop := Mt K d y 0 0 as SH V (fun r sh' V' => sh' = SH ∧ Q r V')
theorem Mt.of2 {K : KK} {d : Nat} {y : MI} {mc ms : Nat} {as : List AV} {L : List (Option AV)} {sh : List SC} {V : Mem} {Q : Option AV → List SC → Mem → Prop} (hy : plainName y.1.cls = true) (hn : Nat.ble (as.flatMap enF).length y.2.2.1 = true) (hL : enL y.2.2.1 as = L) (h : Wp K d y mc ms 0 L [] 0 0 sh V Q) : Mt K d y mc ms as sh V Q := Mt.of hy (Nat.le_of_ble_eq_true hn) (hL ▸ h)
theorem Mf.imp {K : KK} {d : Nat} {y : MI} {as : List AV} {V : Mem} {Q Q2 : Option AV → Mem → Prop} (h : Mf K d y as V Q) (hq : ∀ r V', Q r V' → Q2 r V') : Mf K d y as V Q2 := Mt.imp h (fun r _ V' q => ⟨q.1, hq r V' q.2⟩)
theorem Wf.imp {K : KK} {d : Nat} {y : MI} {pc : Nat} {L : List (Option AV)} {S : List AV} {V : Mem} {Q Q2 : Option AV → Mem → Prop} (h : Wf K d y pc L S V Q) (hq : ∀ r V', Q r V' → Q2 r V') : Wf K d y pc L S V Q2 := Wp.imp h (fun r _ V' q => ⟨q.1, hq r V' q.2⟩)
theorem ap_get {b s n : Nat} {i : Int} (h : 0 ≤ i ∧ i < n) : ((List.range n).map (fun j => some (b + s * j))).getD i.toNat none = some (b + s * i.toNat) := by
  have hl : i.toNat < n := by omega
  rw [List.getD_eq_getElem?_getD, List.getElem?_map, List.getElem?_range hl]
  rfl
def IsRow (a : Nat) : Prop := SH[a]? = some (6, 4, [some (a + 1), none, none, none]) ∧ SH[a + 1]? = some (14, 20, [])
def IsBraid (a : Nat) : Prop := SH[a]? = some (0, 4, [some (a + 1), none, none, none]) ∧ SH[a + 1]? = some (14, 10, [])
def IsDeeds (n a : Nat) : Prop := SH[a]? = some (3, 4, [some (a + 1), some (a + 2), some (a + 3), none]) ∧ SH[a + 1]? = some (14, n, []) ∧ SH[a + 2]? = some (14, n, []) ∧ SH[a + 3]? = some (14, n, []) ∧ n < 2147483648
def IsLaw (a : Nat) : Prop := SH[a]? = some (4, 3, [some (a + 1), some (a + 2), none]) ∧ SH[a + 1]? = some (14, 1000, []) ∧ SH[a + 2]? = some (14, 32, [])
def IsChains (a : Nat) : Prop := SH[a]? = some (1, 9, [some (a + 1), some (a + 2), some (a + 3), some (a + 4), none, none, none, none, none]) ∧ SH[a + 1]? = some (14, 20, []) ∧ SH[a + 2]? = some (14, 20, []) ∧ SH[a + 3]? = some (14, 20, []) ∧ SH[a + 4]? = some (14, 20, [])
def IsStore (a : Nat) : Prop := SH[a]? = some (7, 8, [some (a + 1), some (a + 2), some (a + 3), some (a + 4), some (a + 5), none, none, none]) ∧ SH[a + 1]? = some (18, 4, (List.range 4).map (fun j => some (a + 6 + 2 * j))) ∧ SH[a + 2]? = some (17, 8, (List.range 8).map (fun j => some (a + 14 + 2 * j))) ∧ SH[a + 3]? = some (14, 8, []) ∧ SH[a + 4]? = some (14, 8, []) ∧ SH[a + 5]? = some (16, 8, []) ∧ (∀ i, i < 4 → IsRow (a + 6 + 2 * i)) ∧ (∀ i, i < 8 → IsBraid (a + 14 + 2 * i))
/-- a table of ints: the outer array, its rows behind it -/
def IsTab (n a : Nat) : Prop := SH[a]? = some (20, n, (List.range n).map (fun j => some (a + 1 + 1 * j))) ∧ (∀ i, i < n → SH[a + 1 + 1 * i]? = some (14, n, [])) ∧ n < 2147483648
def IsInts (n a : Nat) : Prop := SH[a]? = some (14, n, [])
theorem IsStore.row {a : Nat} (h : IsStore a) {i : Int} (hi : 0 ≤ i ∧ i < (4 : Nat)) : IsRow (a + 6 + 2 * i.toNat) := h.2.2.2.2.2.2.1 _ (by omega)
theorem IsStore.braid {a : Nat} (h : IsStore a) {i : Int} (hi : 0 ≤ i ∧ i < (8 : Nat)) : IsBraid (a + 14 + 2 * i.toNat) := h.2.2.2.2.2.2.2 _ (by omega)
theorem IsTab.row {n a : Nat} (h : IsTab n a) {i : Int} (hi : 0 ≤ i ∧ i < (n : Int)) : SH[a + 1 + 1 * i.toNat]? = some (14, n, []) := h.2.1 _ (by omega)
/-! a call that is walked where it stands -/
section WPI
variable {K : KK} {d : Nat} {y : MI} {mc ms pc : Nat} {L : List (Option AV)} {S : List AV} {cl sl : Nat} {sh : List SC} {V : Mem} {Q : Option AV → List SC → Mem → Prop}
theorem wp_inlV {idx b cc n nn : Nat} {y' : MI} {as : List AV} {rs : List (Option Nat)} {d' : Nat} {S0 : List AV} (hd : decode y.2.1 pc = .ok (.invokevirtual idx, 3)) (hl : LKV y.1.cls idx y' cc n) (hdd : d' < d) (hq : sh[b]? = some (cc, nn, rs)) (hn : as.length = n) (hS0 : S0 = as.reverse ++ vR b :: S) (hW : cats S ≤ 8) (hm : cl ≤ mc ∧ sl ≤ ms)
    (hM : Mt K d' y' 0 0 (vR b :: as) sh V (fun r sh' V' => Wp K d y mc ms (pc + 3) L (r.toList ++ S) cl sl sh' V' Q)) : Wp K d y mc ms pc L S0 cl sl sh V Q :=
  wp_callV hd hl hM hdd hq hn hS0 hW hm (fun _ _ _ h => h)
theorem wp_inlS {idx n : Nat} {y' : MI} {as : List AV} {d' : Nat} {S0 : List AV} (hd : decode y.2.1 pc = .ok (.invokestatic idx, 3)) (hl : LKS y.1.cls idx y' n) (hdd : d' < d) (hn : as.length = n) (hS0 : S0 = as.reverse ++ S) (hW : cats S ≤ 8) (hm : cl ≤ mc ∧ sl ≤ ms)
    (hM : Mt K d' y' 0 0 as sh V (fun r sh' V' => Wp K d y mc ms (pc + 3) L (r.toList ++ S) cl sl sh' V' Q)) : Wp K d y mc ms pc L S0 cl sl sh V Q :=
  wp_callS hd hl hM hdd hn hS0 hW hm (fun _ _ _ h => h)
end WPI
theorem tswS {P : Prop} (lo hi x : Int) (h1 : x < lo ∨ hi < x → P) (h2 : ¬ x < lo → ¬ hi < x → P) : P := by
  by_cases a : x < lo
  · exact h1 (Or.inl a)
  · by_cases b : hi < x
    · exact h1 (Or.inr b)
    · exact h2 a b
theorem is11 : IsRow 11 := ⟨sh11, sh12⟩
theorem is13 : IsRow 13 := ⟨sh13, sh14⟩
theorem is15 : IsRow 15 := ⟨sh15, sh16⟩
theorem is17 : IsRow 17 := ⟨sh17, sh18⟩
theorem is19 : IsBraid 19 := ⟨sh19, sh20⟩
theorem is21 : IsBraid 21 := ⟨sh21, sh22⟩
theorem is23 : IsBraid 23 := ⟨sh23, sh24⟩
theorem is25 : IsBraid 25 := ⟨sh25, sh26⟩
theorem is27 : IsBraid 27 := ⟨sh27, sh28⟩
theorem is29 : IsBraid 29 := ⟨sh29, sh30⟩
theorem is31 : IsBraid 31 := ⟨sh31, sh32⟩
theorem is33 : IsBraid 33 := ⟨sh33, sh34⟩
theorem is35 : IsLaw 35 := ⟨sh35, sh36, sh37⟩
theorem is38 : IsDeeds 30 38 := ⟨sh38, sh39, sh40, sh41, by decide⟩
theorem is49 : IsRow 49 := ⟨sh49, sh50⟩
theorem is51 : IsRow 51 := ⟨sh51, sh52⟩
theorem is53 : IsRow 53 := ⟨sh53, sh54⟩
theorem is55 : IsRow 55 := ⟨sh55, sh56⟩
theorem is57 : IsBraid 57 := ⟨sh57, sh58⟩
theorem is59 : IsBraid 59 := ⟨sh59, sh60⟩
theorem is61 : IsBraid 61 := ⟨sh61, sh62⟩
theorem is63 : IsBraid 63 := ⟨sh63, sh64⟩
theorem is65 : IsBraid 65 := ⟨sh65, sh66⟩
theorem is67 : IsBraid 67 := ⟨sh67, sh68⟩
theorem is69 : IsBraid 69 := ⟨sh69, sh70⟩
theorem is71 : IsBraid 71 := ⟨sh71, sh72⟩
theorem is79 : IsRow 79 := ⟨sh79, sh80⟩
theorem is81 : IsRow 81 := ⟨sh81, sh82⟩
theorem is83 : IsRow 83 := ⟨sh83, sh84⟩
theorem is85 : IsRow 85 := ⟨sh85, sh86⟩
theorem is87 : IsBraid 87 := ⟨sh87, sh88⟩
theorem is89 : IsBraid 89 := ⟨sh89, sh90⟩
theorem is91 : IsBraid 91 := ⟨sh91, sh92⟩
theorem is93 : IsBraid 93 := ⟨sh93, sh94⟩
theorem is95 : IsBraid 95 := ⟨sh95, sh96⟩
theorem is97 : IsBraid 97 := ⟨sh97, sh98⟩
theorem is99 : IsBraid 99 := ⟨sh99, sh100⟩
theorem is101 : IsBraid 101 := ⟨sh101, sh102⟩
theorem is109 : IsRow 109 := ⟨sh109, sh110⟩
theorem is111 : IsRow 111 := ⟨sh111, sh112⟩
theorem is113 : IsRow 113 := ⟨sh113, sh114⟩
theorem is115 : IsRow 115 := ⟨sh115, sh116⟩
theorem is117 : IsBraid 117 := ⟨sh117, sh118⟩
theorem is119 : IsBraid 119 := ⟨sh119, sh120⟩
theorem is121 : IsBraid 121 := ⟨sh121, sh122⟩
theorem is123 : IsBraid 123 := ⟨sh123, sh124⟩
theorem is125 : IsBraid 125 := ⟨sh125, sh126⟩
theorem is127 : IsBraid 127 := ⟨sh127, sh128⟩
theorem is129 : IsBraid 129 := ⟨sh129, sh130⟩
theorem is131 : IsBraid 131 := ⟨sh131, sh132⟩
theorem is135 : IsLaw 135 := ⟨sh135, sh136, sh137⟩
theorem is138 : IsDeeds 30 138 := ⟨sh138, sh139, sh140, sh141, by decide⟩
theorem is142 : IsDeeds 16 142 := ⟨sh142, sh143, sh144, sh145, by decide⟩
theorem is146 : IsChains 146 := ⟨sh146, sh147, sh148, sh149, sh150⟩
theorem is151 : IsChains 151 := ⟨sh151, sh152, sh153, sh154, sh155⟩
theorem is205 : IsBraid 205 := ⟨sh205, sh206⟩
theorem is207 : IsBraid 207 := ⟨sh207, sh208⟩
theorem is246 : IsRow 246 := ⟨sh246, sh247⟩
theorem is255 : IsRow 255 := ⟨sh255, sh256⟩
theorem is257 : IsRow 257 := ⟨sh257, sh258⟩
theorem is259 : IsRow 259 := ⟨sh259, sh260⟩
theorem is261 : IsRow 261 := ⟨sh261, sh262⟩
theorem is263 : IsBraid 263 := ⟨sh263, sh264⟩
theorem is265 : IsBraid 265 := ⟨sh265, sh266⟩
theorem is267 : IsBraid 267 := ⟨sh267, sh268⟩
theorem is269 : IsBraid 269 := ⟨sh269, sh270⟩
theorem is271 : IsBraid 271 := ⟨sh271, sh272⟩
theorem is273 : IsBraid 273 := ⟨sh273, sh274⟩
theorem is275 : IsBraid 275 := ⟨sh275, sh276⟩
theorem is277 : IsBraid 277 := ⟨sh277, sh278⟩
theorem is285 : IsRow 285 := ⟨sh285, sh286⟩
theorem is287 : IsRow 287 := ⟨sh287, sh288⟩
theorem is289 : IsRow 289 := ⟨sh289, sh290⟩
theorem is291 : IsRow 291 := ⟨sh291, sh292⟩
theorem is293 : IsBraid 293 := ⟨sh293, sh294⟩
theorem is295 : IsBraid 295 := ⟨sh295, sh296⟩
theorem is297 : IsBraid 297 := ⟨sh297, sh298⟩
theorem is299 : IsBraid 299 := ⟨sh299, sh300⟩
theorem is301 : IsBraid 301 := ⟨sh301, sh302⟩
theorem is303 : IsBraid 303 := ⟨sh303, sh304⟩
theorem is305 : IsBraid 305 := ⟨sh305, sh306⟩
theorem is307 : IsBraid 307 := ⟨sh307, sh308⟩
theorem is315 : IsRow 315 := ⟨sh315, sh316⟩
theorem is317 : IsRow 317 := ⟨sh317, sh318⟩
theorem is319 : IsRow 319 := ⟨sh319, sh320⟩
theorem is321 : IsRow 321 := ⟨sh321, sh322⟩
theorem is323 : IsBraid 323 := ⟨sh323, sh324⟩
theorem is325 : IsBraid 325 := ⟨sh325, sh326⟩
theorem is327 : IsBraid 327 := ⟨sh327, sh328⟩
theorem is329 : IsBraid 329 := ⟨sh329, sh330⟩
theorem is331 : IsBraid 331 := ⟨sh331, sh332⟩
theorem is333 : IsBraid 333 := ⟨sh333, sh334⟩
theorem is335 : IsBraid 335 := ⟨sh335, sh336⟩
theorem is337 : IsBraid 337 := ⟨sh337, sh338⟩
theorem is345 : IsRow 345 := ⟨sh345, sh346⟩
theorem is347 : IsRow 347 := ⟨sh347, sh348⟩
theorem is349 : IsRow 349 := ⟨sh349, sh350⟩
theorem is351 : IsRow 351 := ⟨sh351, sh352⟩
theorem is353 : IsBraid 353 := ⟨sh353, sh354⟩
theorem is355 : IsBraid 355 := ⟨sh355, sh356⟩
theorem is357 : IsBraid 357 := ⟨sh357, sh358⟩
theorem is359 : IsBraid 359 := ⟨sh359, sh360⟩
theorem is361 : IsBraid 361 := ⟨sh361, sh362⟩
theorem is363 : IsBraid 363 := ⟨sh363, sh364⟩
theorem is365 : IsBraid 365 := ⟨sh365, sh366⟩
theorem is367 : IsBraid 367 := ⟨sh367, sh368⟩
theorem is5 : IsStore 5 := by
  refine ⟨sh5, sh6, sh7, sh8, sh9, sh10, fun j hj => ?_, fun j hj => ?_⟩
  · match j, hj with
    | 0, _ => exact is11
    | 1, _ => exact is13
    | 2, _ => exact is15
    | 3, _ => exact is17
    | j + 4, hj => omega
  · match j, hj with
    | 0, _ => exact is19
    | 1, _ => exact is21
    | 2, _ => exact is23
    | 3, _ => exact is25
    | 4, _ => exact is27
    | 5, _ => exact is29
    | 6, _ => exact is31
    | 7, _ => exact is33
    | j + 8, hj => omega
theorem obj6 {k : Int} (h : 0 ≤ k ∧ k < (4 : Nat)) : IsRow (11 + 2 * Int.toNat k) := is5.row h
theorem obj7 {k : Int} (h : 0 ≤ k ∧ k < (8 : Nat)) : IsBraid (19 + 2 * Int.toNat k) := is5.braid h
theorem is43 : IsStore 43 := by
  refine ⟨sh43, sh44, sh45, sh46, sh47, sh48, fun j hj => ?_, fun j hj => ?_⟩
  · match j, hj with
    | 0, _ => exact is49
    | 1, _ => exact is51
    | 2, _ => exact is53
    | 3, _ => exact is55
    | j + 4, hj => omega
  · match j, hj with
    | 0, _ => exact is57
    | 1, _ => exact is59
    | 2, _ => exact is61
    | 3, _ => exact is63
    | 4, _ => exact is65
    | 5, _ => exact is67
    | 6, _ => exact is69
    | 7, _ => exact is71
    | j + 8, hj => omega
theorem obj44 {k : Int} (h : 0 ≤ k ∧ k < (4 : Nat)) : IsRow (49 + 2 * Int.toNat k) := is43.row h
theorem obj45 {k : Int} (h : 0 ≤ k ∧ k < (8 : Nat)) : IsBraid (57 + 2 * Int.toNat k) := is43.braid h
theorem is73 : IsStore 73 := by
  refine ⟨sh73, sh74, sh75, sh76, sh77, sh78, fun j hj => ?_, fun j hj => ?_⟩
  · match j, hj with
    | 0, _ => exact is79
    | 1, _ => exact is81
    | 2, _ => exact is83
    | 3, _ => exact is85
    | j + 4, hj => omega
  · match j, hj with
    | 0, _ => exact is87
    | 1, _ => exact is89
    | 2, _ => exact is91
    | 3, _ => exact is93
    | 4, _ => exact is95
    | 5, _ => exact is97
    | 6, _ => exact is99
    | 7, _ => exact is101
    | j + 8, hj => omega
theorem obj74 {k : Int} (h : 0 ≤ k ∧ k < (4 : Nat)) : IsRow (79 + 2 * Int.toNat k) := is73.row h
theorem obj75 {k : Int} (h : 0 ≤ k ∧ k < (8 : Nat)) : IsBraid (87 + 2 * Int.toNat k) := is73.braid h
theorem is103 : IsStore 103 := by
  refine ⟨sh103, sh104, sh105, sh106, sh107, sh108, fun j hj => ?_, fun j hj => ?_⟩
  · match j, hj with
    | 0, _ => exact is109
    | 1, _ => exact is111
    | 2, _ => exact is113
    | 3, _ => exact is115
    | j + 4, hj => omega
  · match j, hj with
    | 0, _ => exact is117
    | 1, _ => exact is119
    | 2, _ => exact is121
    | 3, _ => exact is123
    | 4, _ => exact is125
    | 5, _ => exact is127
    | 6, _ => exact is129
    | 7, _ => exact is131
    | j + 8, hj => omega
theorem obj104 {k : Int} (h : 0 ≤ k ∧ k < (4 : Nat)) : IsRow (109 + 2 * Int.toNat k) := is103.row h
theorem obj105 {k : Int} (h : 0 ≤ k ∧ k < (8 : Nat)) : IsBraid (117 + 2 * Int.toNat k) := is103.braid h
theorem is157 : IsTab 21 157 := by
  refine ⟨sh157, fun j hj => ?_, by decide⟩
  match j, hj with
  | 0, _ => exact sh158
  | 1, _ => exact sh159
  | 2, _ => exact sh160
  | 3, _ => exact sh161
  | 4, _ => exact sh162
  | 5, _ => exact sh163
  | 6, _ => exact sh164
  | 7, _ => exact sh165
  | 8, _ => exact sh166
  | 9, _ => exact sh167
  | 10, _ => exact sh168
  | 11, _ => exact sh169
  | 12, _ => exact sh170
  | 13, _ => exact sh171
  | 14, _ => exact sh172
  | 15, _ => exact sh173
  | 16, _ => exact sh174
  | 17, _ => exact sh175
  | 18, _ => exact sh176
  | 19, _ => exact sh177
  | 20, _ => exact sh178
  | j + 21, hj => omega
theorem arr157 {k : Int} (h : 0 ≤ k ∧ k < (21 : Nat)) : SH[158 + 1 * Int.toNat k]? = some (14, 21, []) := is157.row h
theorem is181 : IsTab 20 181 := by
  refine ⟨sh181, fun j hj => ?_, by decide⟩
  match j, hj with
  | 0, _ => exact sh182
  | 1, _ => exact sh183
  | 2, _ => exact sh184
  | 3, _ => exact sh185
  | 4, _ => exact sh186
  | 5, _ => exact sh187
  | 6, _ => exact sh188
  | 7, _ => exact sh189
  | 8, _ => exact sh190
  | 9, _ => exact sh191
  | 10, _ => exact sh192
  | 11, _ => exact sh193
  | 12, _ => exact sh194
  | 13, _ => exact sh195
  | 14, _ => exact sh196
  | 15, _ => exact sh197
  | 16, _ => exact sh198
  | 17, _ => exact sh199
  | 18, _ => exact sh200
  | 19, _ => exact sh201
  | j + 20, hj => omega
theorem arr181 {k : Int} (h : 0 ≤ k ∧ k < (20 : Nat)) : SH[182 + 1 * Int.toNat k]? = some (14, 20, []) := is181.row h
theorem is209 : IsTab 11 209 := by
  refine ⟨sh209, fun j hj => ?_, by decide⟩
  match j, hj with
  | 0, _ => exact sh210
  | 1, _ => exact sh211
  | 2, _ => exact sh212
  | 3, _ => exact sh213
  | 4, _ => exact sh214
  | 5, _ => exact sh215
  | 6, _ => exact sh216
  | 7, _ => exact sh217
  | 8, _ => exact sh218
  | 9, _ => exact sh219
  | 10, _ => exact sh220
  | j + 11, hj => omega
theorem arr209 {k : Int} (h : 0 ≤ k ∧ k < (11 : Nat)) : SH[210 + 1 * Int.toNat k]? = some (14, 11, []) := is209.row h
theorem is221 : IsTab 11 221 := by
  refine ⟨sh221, fun j hj => ?_, by decide⟩
  match j, hj with
  | 0, _ => exact sh222
  | 1, _ => exact sh223
  | 2, _ => exact sh224
  | 3, _ => exact sh225
  | 4, _ => exact sh226
  | 5, _ => exact sh227
  | 6, _ => exact sh228
  | 7, _ => exact sh229
  | 8, _ => exact sh230
  | 9, _ => exact sh231
  | 10, _ => exact sh232
  | j + 11, hj => omega
theorem arr221 {k : Int} (h : 0 ≤ k ∧ k < (11 : Nat)) : SH[222 + 1 * Int.toNat k]? = some (14, 11, []) := is221.row h
theorem is233 : IsTab 11 233 := by
  refine ⟨sh233, fun j hj => ?_, by decide⟩
  match j, hj with
  | 0, _ => exact sh234
  | 1, _ => exact sh235
  | 2, _ => exact sh236
  | 3, _ => exact sh237
  | 4, _ => exact sh238
  | 5, _ => exact sh239
  | 6, _ => exact sh240
  | 7, _ => exact sh241
  | 8, _ => exact sh242
  | 9, _ => exact sh243
  | 10, _ => exact sh244
  | j + 11, hj => omega
theorem arr233 {k : Int} (h : 0 ≤ k ∧ k < (11 : Nat)) : SH[234 + 1 * Int.toNat k]? = some (14, 11, []) := is233.row h
theorem is249 : IsStore 249 := by
  refine ⟨sh249, sh250, sh251, sh252, sh253, sh254, fun j hj => ?_, fun j hj => ?_⟩
  · match j, hj with
    | 0, _ => exact is255
    | 1, _ => exact is257
    | 2, _ => exact is259
    | 3, _ => exact is261
    | j + 4, hj => omega
  · match j, hj with
    | 0, _ => exact is263
    | 1, _ => exact is265
    | 2, _ => exact is267
    | 3, _ => exact is269
    | 4, _ => exact is271
    | 5, _ => exact is273
    | 6, _ => exact is275
    | 7, _ => exact is277
    | j + 8, hj => omega
theorem obj250 {k : Int} (h : 0 ≤ k ∧ k < (4 : Nat)) : IsRow (255 + 2 * Int.toNat k) := is249.row h
theorem obj251 {k : Int} (h : 0 ≤ k ∧ k < (8 : Nat)) : IsBraid (263 + 2 * Int.toNat k) := is249.braid h
theorem is279 : IsStore 279 := by
  refine ⟨sh279, sh280, sh281, sh282, sh283, sh284, fun j hj => ?_, fun j hj => ?_⟩
  · match j, hj with
    | 0, _ => exact is285
    | 1, _ => exact is287
    | 2, _ => exact is289
    | 3, _ => exact is291
    | j + 4, hj => omega
  · match j, hj with
    | 0, _ => exact is293
    | 1, _ => exact is295
    | 2, _ => exact is297
    | 3, _ => exact is299
    | 4, _ => exact is301
    | 5, _ => exact is303
    | 6, _ => exact is305
    | 7, _ => exact is307
    | j + 8, hj => omega
theorem obj280 {k : Int} (h : 0 ≤ k ∧ k < (4 : Nat)) : IsRow (285 + 2 * Int.toNat k) := is279.row h
theorem obj281 {k : Int} (h : 0 ≤ k ∧ k < (8 : Nat)) : IsBraid (293 + 2 * Int.toNat k) := is279.braid h
theorem is309 : IsStore 309 := by
  refine ⟨sh309, sh310, sh311, sh312, sh313, sh314, fun j hj => ?_, fun j hj => ?_⟩
  · match j, hj with
    | 0, _ => exact is315
    | 1, _ => exact is317
    | 2, _ => exact is319
    | 3, _ => exact is321
    | j + 4, hj => omega
  · match j, hj with
    | 0, _ => exact is323
    | 1, _ => exact is325
    | 2, _ => exact is327
    | 3, _ => exact is329
    | 4, _ => exact is331
    | 5, _ => exact is333
    | 6, _ => exact is335
    | 7, _ => exact is337
    | j + 8, hj => omega
theorem obj310 {k : Int} (h : 0 ≤ k ∧ k < (4 : Nat)) : IsRow (315 + 2 * Int.toNat k) := is309.row h
theorem obj311 {k : Int} (h : 0 ≤ k ∧ k < (8 : Nat)) : IsBraid (323 + 2 * Int.toNat k) := is309.braid h
theorem is339 : IsStore 339 := by
  refine ⟨sh339, sh340, sh341, sh342, sh343, sh344, fun j hj => ?_, fun j hj => ?_⟩
  · match j, hj with
    | 0, _ => exact is345
    | 1, _ => exact is347
    | 2, _ => exact is349
    | 3, _ => exact is351
    | j + 4, hj => omega
  · match j, hj with
    | 0, _ => exact is353
    | 1, _ => exact is355
    | 2, _ => exact is357
    | 3, _ => exact is359
    | 4, _ => exact is361
    | 5, _ => exact is363
    | 6, _ => exact is365
    | 7, _ => exact is367
    | j + 8, hj => omega
theorem obj340 {k : Int} (h : 0 ≤ k ∧ k < (4 : Nat)) : IsRow (345 + 2 * Int.toNat k) := is339.row h
theorem obj341 {k : Int} (h : 0 ≤ k ∧ k < (8 : Nat)) : IsBraid (353 + 2 * Int.toNat k) := is339.braid h
theorem obj133 {k : Int} (h : 0 ≤ k ∧ k < (4 : Nat)) : IsStore (249 + 30 * Int.toNat k) := by
  have hk : Int.toNat k < 4 := by omega
  generalize Int.toNat k = j at hk
  match j, hk with
  | 0, _ => exact is249
  | 1, _ => exact is279
  | 2, _ => exact is309
  | 3, _ => exact is339
  | j + 4, hk => omega
theorem pnX0 : plainName RX0 = true := by decide +kernel
theorem pnX1 : plainName RX1 = true := by decide +kernel
theorem pnX2 : plainName RX2 = true := by decide +kernel
theorem pnX3 : plainName RX3 = true := by decide +kernel
theorem pnX4 : plainName RX4 = true := by decide +kernel
theorem pnX5 : plainName RX5 = true := by decide +kernel
theorem pnX6 : plainName RX6 = true := by decide +kernel
theorem pnX7 : plainName RX7 = true := by decide +kernel
theorem pnX8 : plainName RX8 = true := by decide +kernel
theorem pnX9 : plainName RX9 = true := by decide +kernel
theorem pnX10 : plainName RX10 = true := by decide +kernel
theorem pnX11 : plainName RX11 = true := by decide +kernel
theorem pnX12 : plainName RX12 = true := by decide +kernel
