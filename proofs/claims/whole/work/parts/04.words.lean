/-! ===== words of the tables that are used, by their places ===== -/
def tb : List Cond := lw_tbl.filter goodWord
theorem tb_in {w : Cond} (h : w ∈ tb) : w ∈ lw_tbl := (List.mem_filter.mp h).1
theorem tb_of {w : Cond} (h : w ∈ lw_tbl) (hg : goodWord w = true) : w ∈ tb := List.mem_filter.mpr ⟨h, hg⟩
theorem tb_k1 {w : Cond} (h : w ∈ tables_1_1) (hg : goodWord w = true) : w ∈ tb := tb_of (List.mem_append_right _ (List.mem_append_left _ h)) hg
theorem tb_k2 {w : Cond} (h : w ∈ tables_1_2) (hg : goodWord w = true) : w ∈ tb := tb_of (List.mem_append_right _ (List.mem_append_right _ (List.mem_append_left _ h))) hg
theorem tb_k3 {w : Cond} (h : w ∈ tables_1_3) (hg : goodWord w = true) : w ∈ tb := tb_of (List.mem_append_right _ (List.mem_append_right _ (List.mem_append_right _ (List.mem_append_left _ h)))) hg
theorem tb_k4 {w : Cond} (h : w ∈ tables_1_4) (hg : goodWord w = true) : w ∈ tb := tb_of (List.mem_append_right _ (List.mem_append_right _ (List.mem_append_right _ (List.mem_append_right _ (List.mem_append_left _ h))))) hg
theorem tb_k5 {w : Cond} (h : w ∈ tables_1_5) (hg : goodWord w = true) : w ∈ tb := tb_of (List.mem_append_right _ (List.mem_append_right _ (List.mem_append_right _ (List.mem_append_right _ (List.mem_append_right _ (List.mem_append_left _ h)))))) hg
theorem tb_k6 {w : Cond} (h : w ∈ tables_1_6) (hg : goodWord w = true) : w ∈ tb := tb_of (List.mem_append_right _ (List.mem_append_right _ (List.mem_append_right _ (List.mem_append_right _ (List.mem_append_right _ (List.mem_append_right _ (List.mem_append_left _ h))))))) hg
theorem tb_k7 {w : Cond} (h : w ∈ tables_1_7) (hg : goodWord w = true) : w ∈ tb := tb_of (List.mem_append_right _ (List.mem_append_right _ (List.mem_append_right _ (List.mem_append_right _ (List.mem_append_right _ (List.mem_append_right _ (List.mem_append_right _ (List.mem_append_left _ h)))))))) hg
theorem tb_k8 {w : Cond} (h : w ∈ tables_1_8) (hg : goodWord w = true) : w ∈ tb := tb_of (List.mem_append_right _ (List.mem_append_right _ (List.mem_append_right _ (List.mem_append_right _ (List.mem_append_right _ (List.mem_append_right _ (List.mem_append_right _ (List.mem_append_right _ h)))))))) hg
theorem tb_p1 {q : MethodName × Nat} (h : q ∈ lw_privs_1) : Cond.selects q.1.cls q.1 q.1 ∈ tb := tb_of (List.mem_append_left _ (List.mem_map.mpr ⟨q, (List.mem_append_left _ h), rfl⟩)) rfl
theorem tb_p2 {q : MethodName × Nat} (h : q ∈ lw_privs_2) : Cond.selects q.1.cls q.1 q.1 ∈ tb := tb_of (List.mem_append_left _ (List.mem_map.mpr ⟨q, (List.mem_append_right _ (List.mem_append_left _ h)), rfl⟩)) rfl
theorem tb_p3 {q : MethodName × Nat} (h : q ∈ lw_privs_3) : Cond.selects q.1.cls q.1 q.1 ∈ tb := tb_of (List.mem_append_left _ (List.mem_map.mpr ⟨q, (List.mem_append_right _ (List.mem_append_right _ (List.mem_append_left _ h))), rfl⟩)) rfl
theorem tb_p4 {q : MethodName × Nat} (h : q ∈ lw_privs_4) : Cond.selects q.1.cls q.1 q.1 ∈ tb := tb_of (List.mem_append_left _ (List.mem_map.mpr ⟨q, (List.mem_append_right _ (List.mem_append_right _ (List.mem_append_right _ (List.mem_append_left _ h)))), rfl⟩)) rfl
theorem tb_p5 {q : MethodName × Nat} (h : q ∈ lw_privs_5) : Cond.selects q.1.cls q.1 q.1 ∈ tb := tb_of (List.mem_append_left _ (List.mem_map.mpr ⟨q, (List.mem_append_right _ (List.mem_append_right _ (List.mem_append_right _ (List.mem_append_right _ (List.mem_append_left _ h))))), rfl⟩)) rfl
theorem tb_p6 {q : MethodName × Nat} (h : q ∈ lw_privs_6) : Cond.selects q.1.cls q.1 q.1 ∈ tb := tb_of (List.mem_append_left _ (List.mem_map.mpr ⟨q, (List.mem_append_right _ (List.mem_append_right _ (List.mem_append_right _ (List.mem_append_right _ (List.mem_append_right _ (List.mem_append_left _ h)))))), rfl⟩)) rfl
theorem tb_p7 {q : MethodName × Nat} (h : q ∈ lw_privs_7) : Cond.selects q.1.cls q.1 q.1 ∈ tb := tb_of (List.mem_append_left _ (List.mem_map.mpr ⟨q, (List.mem_append_right _ (List.mem_append_right _ (List.mem_append_right _ (List.mem_append_right _ (List.mem_append_right _ (List.mem_append_right _ h)))))), rfl⟩)) rfl
theorem wd287 : Cond.code yX0_init cX0_init 1 none ∈ tb := tb_k1 (List.mem_of_getElem? (i := 181) rfl) rfl
theorem wd116 : Cond.initialized RX0 ∈ tb := tb_k1 (List.mem_of_getElem? (i := 10) rfl) rfl
theorem wd1203 : Cond.code yX0_hasStrand cX0_hasStrand 2 (some .boolean) ∈ tb := tb_k5 (List.mem_of_getElem? (i := 137) rfl) rfl
theorem wd740 : Cond.code yX0_addStrand cX0_addStrand 2 (some .boolean) ∈ tb := tb_k3 (List.mem_of_getElem? (i := 154) rfl) rfl
theorem wd736 : Cond.code yX0_strandAt cX0_strandAt 3 (some .int) ∈ tb := tb_k3 (List.mem_of_getElem? (i := 150) rfl) rfl
theorem wd732 : Cond.code yX0_isWhole cX0_isWhole 2 (some .boolean) ∈ tb := tb_k3 (List.mem_of_getElem? (i := 146) rfl) rfl
theorem wd926 : Cond.code yX0_crossAt cX0_crossAt 2 (some .boolean) ∈ tb := tb_k4 (List.mem_of_getElem? (i := 100) rfl) rfl
theorem wd931 : Cond.code yX0_exchangeAt cX0_exchangeAt 4 (some .boolean) ∈ tb := tb_k4 (List.mem_of_getElem? (i := 105) rfl) rfl
theorem wd874 : Cond.code yX0_crossings cX0_crossings 4 (some .int) ∈ tb := tb_k4 (List.mem_of_getElem? (i := 48) rfl) rfl
theorem wd1211 : Cond.code yX0_countOf cX0_countOf 5 (some .int) ∈ tb := tb_k5 (List.mem_of_getElem? (i := 145) rfl) rfl
theorem wd1232 : Cond.code yX0_isSame cX0_isSame 3 (some .boolean) ∈ tb := tb_k5 (List.mem_of_getElem? (i := 166) rfl) rfl
theorem wd791 : Cond.code yX0_copyFrom cX0_copyFrom 2 none ∈ tb := tb_k3 (List.mem_of_getElem? (i := 205) rfl) rfl
theorem wd429 : Cond.code yX1_init cX1_init 1 none ∈ tb := tb_k2 (List.mem_of_getElem? (i := 83) rfl) rfl
theorem wd120 : Cond.initialized RX1 ∈ tb := tb_k1 (List.mem_of_getElem? (i := 14) rfl) rfl
theorem wd1002 : Cond.code yX1_load cX1_load 4 none ∈ tb := tb_k4 (List.mem_of_getElem? (i := 176) rfl) rfl
theorem wd1030 : Cond.code yX1_mayFollow cX1_mayFollow 3 (some .boolean) ∈ tb := tb_k4 (List.mem_of_getElem? (i := 204) rfl) rfl
theorem wd1026 : Cond.code yX1_follows cX1_follows 3 (some .boolean) ∈ tb := tb_k4 (List.mem_of_getElem? (i := 200) rfl) rfl
theorem wd1022 : Cond.code yX1_measureUp cX1_measureUp 4 none ∈ tb := tb_k4 (List.mem_of_getElem? (i := 196) rfl) rfl
theorem wd1034 : Cond.code yX1_measureBehind cX1_measureBehind 4 none ∈ tb := tb_k4 (List.mem_of_getElem? (i := 208) rfl) rfl
theorem wd1017 : Cond.code yX1_measure cX1_measure 4 none ∈ tb := tb_k4 (List.mem_of_getElem? (i := 191) rfl) rfl
theorem wd1128 : Cond.code yX1_measureFrom cX1_measureFrom 5 none ∈ tb := tb_k5 (List.mem_of_getElem? (i := 62) rfl) rfl
theorem wd1042 : Cond.code yX1_placeOfFirst cX1_placeOfFirst 5 (some .int) ∈ tb := tb_k4 (List.mem_of_getElem? (i := 216) rfl) rfl
theorem wd1050 : Cond.code yX1_countWays cX1_countWays 4 (some .int) ∈ tb := tb_k4 (List.mem_of_getElem? (i := 224) rfl) rfl
theorem wd1054 : Cond.code yX1_waysOn cX1_waysOn 5 (some .int) ∈ tb := tb_k4 (List.mem_of_getElem? (i := 228) rfl) rfl
theorem wd1070 : Cond.code yX1_isOnLongest cX1_isOnLongest 2 (some .boolean) ∈ tb := tb_k5 (List.mem_of_getElem? (i := 4) rfl) rfl
theorem wd1082 : Cond.code yX1_mayBits cX1_mayBits 3 (some .int) ∈ tb := tb_k5 (List.mem_of_getElem? (i := 16) rfl) rfl
theorem wd1066 : Cond.code yX1_mustBits cX1_mustBits 3 (some .int) ∈ tb := tb_k5 (List.mem_of_getElem? (i := 0) rfl) rfl
theorem wd1074 : Cond.code yX1_isAloneAtStep cX1_isAloneAtStep 3 (some .boolean) ∈ tb := tb_k5 (List.mem_of_getElem? (i := 8) rfl) rfl
theorem wd502 : Cond.code yX2_init cX2_init 1 none ∈ tb := tb_k2 (List.mem_of_getElem? (i := 156) rfl) rfl
theorem wd123 : Cond.initialized RX2 ∈ tb := tb_k1 (List.mem_of_getElem? (i := 17) rfl) rfl
theorem wd949 : Cond.code yX2_tabulate cX2_tabulate 5 none ∈ tb := tb_k4 (List.mem_of_getElem? (i := 123) rfl) rfl
theorem wd946 : Cond.code yX2_join cX2_join 7 none ∈ tb := tb_k4 (List.mem_of_getElem? (i := 120) rfl) rfl
theorem wd953 : Cond.code yX2_leastBetween cX2_leastBetween 6 (some .int) ∈ tb := tb_k4 (List.mem_of_getElem? (i := 127) rfl) rfl
theorem wd958 : Cond.code yX2_endOf cX2_endOf 5 (some .int) ∈ tb := tb_k4 (List.mem_of_getElem? (i := 132) rfl) rfl
theorem wd1226 : Cond.code yX2_raise cX2_raise 4 (some .int) ∈ tb := tb_k5 (List.mem_of_getElem? (i := 160) rfl) rfl
theorem wd1256 : Cond.code yX2_isUnder cX2_isUnder 5 (some .boolean) ∈ tb := tb_k5 (List.mem_of_getElem? (i := 190) rfl) rfl
theorem wd1244 : Cond.code yX2_knitStep cX2_knitStep 6 (some .int) ∈ tb := tb_k5 (List.mem_of_getElem? (i := 178) rfl) rfl
theorem wd1248 : Cond.code yX2_leastCrossing cX2_leastCrossing 3 (some .int) ∈ tb := tb_k5 (List.mem_of_getElem? (i := 182) rfl) rfl
theorem wd364 : Cond.code yX3_init cX3_init 3 none ∈ tb := tb_k2 (List.mem_of_getElem? (i := 18) rfl) rfl
theorem wd118 : Cond.initialized RX3 ∈ tb := tb_k1 (List.mem_of_getElem? (i := 12) rfl) rfl
theorem wd837 : Cond.code yX3_has cX3_has 2 (some .boolean) ∈ tb := tb_k4 (List.mem_of_getElem? (i := 11) rfl) rfl
theorem wd833 : Cond.code yX3_verbOf cX3_verbOf 2 (some .int) ∈ tb := tb_k4 (List.mem_of_getElem? (i := 7) rfl) rfl
theorem wd841 : Cond.code yX3_whichOf cX3_whichOf 2 (some .int) ∈ tb := tb_k4 (List.mem_of_getElem? (i := 15) rfl) rfl
theorem wd845 : Cond.code yX3_valueOf cX3_valueOf 2 (some .int) ∈ tb := tb_k4 (List.mem_of_getElem? (i := 19) rfl) rfl
theorem wd821 : Cond.code yX3_add cX3_add 4 none ∈ tb := tb_k3 (List.mem_of_getElem? (i := 235) rfl) rfl
theorem wd825 : Cond.code yX3_forgetOldest cX3_forgetOldest 2 none ∈ tb := tb_k3 (List.mem_of_getElem? (i := 239) rfl) rfl
theorem wd829 : Cond.code yX3_copyFrom cX3_copyFrom 3 none ∈ tb := tb_k4 (List.mem_of_getElem? (i := 3) rfl) rfl
theorem wd347 : Cond.code yX4_init cX4_init 1 none ∈ tb := tb_k2 (List.mem_of_getElem? (i := 1) rfl) rfl
theorem wd117 : Cond.initialized RX4 ∈ tb := tb_k1 (List.mem_of_getElem? (i := 11) rfl) rfl
theorem wd608 : Cond.code yX4_bePlain cX4_bePlain 1 none ∈ tb := tb_k3 (List.mem_of_getElem? (i := 22) rfl) rfl
theorem wd612 : Cond.code yX4_add cX4_add 2 none ∈ tb := tb_k3 (List.mem_of_getElem? (i := 26) rfl) rfl
theorem wd796 : Cond.code yX4_copyFrom cX4_copyFrom 2 none ∈ tb := tb_k3 (List.mem_of_getElem? (i := 210) rfl) rfl
theorem wd1007 : Cond.code yX4_weigh cX4_weigh 8 (some .int) ∈ tb := tb_k4 (List.mem_of_getElem? (i := 181) rfl) rfl
theorem wd1013 : Cond.code yX4_operand cX4_operand 5 (some .int) ∈ tb := tb_k4 (List.mem_of_getElem? (i := 187) rfl) rfl
theorem wd1010 : Cond.code yX4_result cX4_result 3 (some .int) ∈ tb := tb_k4 (List.mem_of_getElem? (i := 184) rfl) rfl
theorem wd240 : Cond.code yX5_init cX5_init 1 none ∈ tb := tb_k1 (List.mem_of_getElem? (i := 134) rfl) rfl
theorem wd113 : Cond.initialized RX5 ∈ tb := tb_k1 (List.mem_of_getElem? (i := 7) rfl) rfl
theorem wd600 : Cond.code yX5_readIndex cX5_readIndex 3 (some .int) ∈ tb := tb_k3 (List.mem_of_getElem? (i := 14) rfl) rfl
theorem wd805 : Cond.code yX5_readWork cX5_readWork 4 (some .int) ∈ tb := tb_k3 (List.mem_of_getElem? (i := 219) rfl) rfl
theorem wd704 : Cond.code yX5_wrong cX5_wrong 3 (some .boolean) ∈ tb := tb_k3 (List.mem_of_getElem? (i := 118) rfl) rfl
theorem wd696 : Cond.code yX5_readStatement cX5_readStatement 2 (some .boolean) ∈ tb := tb_k3 (List.mem_of_getElem? (i := 110) rfl) rfl
theorem wd708 : Cond.code yX5_readNewName cX5_readNewName 2 (some .boolean) ∈ tb := tb_k3 (List.mem_of_getElem? (i := 122) rfl) rfl
theorem wd700 : Cond.code yX5_readRow cX5_readRow 4 (some .boolean) ∈ tb := tb_k3 (List.mem_of_getElem? (i := 114) rfl) rfl
theorem wd728 : Cond.code yX5_readBraid cX5_readBraid 4 (some .boolean) ∈ tb := tb_k3 (List.mem_of_getElem? (i := 142) rfl) rfl
theorem wd809 : Cond.code yX5_readLine cX5_readLine 5 (some .boolean) ∈ tb := tb_k3 (List.mem_of_getElem? (i := 223) rfl) rfl
theorem wd813 : Cond.code yX5_readToldName cX5_readToldName 4 (some .boolean) ∈ tb := tb_k3 (List.mem_of_getElem? (i := 227) rfl) rfl
theorem wd817 : Cond.code yX5_readNumber cX5_readNumber 3 (some .boolean) ∈ tb := tb_k3 (List.mem_of_getElem? (i := 231) rfl) rfl
theorem wd744 : Cond.code yX5_readLaw cX5_readLaw 3 (some .boolean) ∈ tb := tb_k3 (List.mem_of_getElem? (i := 158) rfl) rfl
theorem wd748 : Cond.code yX5_takePart cX5_takePart 4 (some .boolean) ∈ tb := tb_k3 (List.mem_of_getElem? (i := 162) rfl) rfl
theorem wd772 : Cond.code yX5_takeOperator cX5_takeOperator 4 (some .boolean) ∈ tb := tb_k3 (List.mem_of_getElem? (i := 186) rfl) rfl
theorem wd768 : Cond.code yX5_closeBracket cX5_closeBracket 2 (some .boolean) ∈ tb := tb_k3 (List.mem_of_getElem? (i := 182) rfl) rfl
theorem wd752 : Cond.code yX5_hold cX5_hold 2 none ∈ tb := tb_k3 (List.mem_of_getElem? (i := 166) rfl) rfl
theorem wd761 : Cond.code yX5_release cX5_release 2 none ∈ tb := tb_k3 (List.mem_of_getElem? (i := 175) rfl) rfl
theorem wd757 : Cond.code yX5_releaseNots cX5_releaseNots 1 none ∈ tb := tb_k3 (List.mem_of_getElem? (i := 171) rfl) rfl
theorem wd764 : Cond.code yX5_rankOf cX5_rankOf 1 (some .int) ∈ tb := tb_k3 (List.mem_of_getElem? (i := 178) rfl) rfl
theorem wd255 : Cond.code yX6_init cX6_init 1 none ∈ tb := tb_k1 (List.mem_of_getElem? (i := 149) rfl) rfl
theorem wd115 : Cond.initialized RX6 ∈ tb := tb_k1 (List.mem_of_getElem? (i := 9) rfl) rfl
theorem wd862 : Cond.code yX6_hasPlace cX6_hasPlace 2 (some .boolean) ∈ tb := tb_k4 (List.mem_of_getElem? (i := 36) rfl) rfl
theorem wd724 : Cond.code yX6_add cX6_add 2 (some .boolean) ∈ tb := tb_k3 (List.mem_of_getElem? (i := 138) rfl) rfl
theorem wd913 : Cond.code yX6_flip cX6_flip 3 none ∈ tb := tb_k4 (List.mem_of_getElem? (i := 87) rfl) rfl
theorem wd784 : Cond.code yX6_copyFrom cX6_copyFrom 2 none ∈ tb := tb_k3 (List.mem_of_getElem? (i := 198) rfl) rfl
theorem wd246 : Cond.code yX7_init cX7_init 2 none ∈ tb := tb_k1 (List.mem_of_getElem? (i := 140) rfl) rfl
theorem wd114 : Cond.initialized RX7 ∈ tb := tb_k1 (List.mem_of_getElem? (i := 8) rfl) rfl
theorem wd604 : Cond.code yX7_clear cX7_clear 1 none ∈ tb := tb_k3 (List.mem_of_getElem? (i := 18) rfl) rfl
theorem wd780 : Cond.code yX7_copyFrom cX7_copyFrom 3 none ∈ tb := tb_k3 (List.mem_of_getElem? (i := 194) rfl) rfl
theorem wd854 : Cond.code yX7_rowAt cX7_rowAt 2 (some (.object "ChainIndex$Row")) ∈ tb := tb_k4 (List.mem_of_getElem? (i := 28) rfl) rfl
theorem wd870 : Cond.code yX7_braidAt cX7_braidAt 2 (some (.object "ChainIndex$Braid")) ∈ tb := tb_k4 (List.mem_of_getElem? (i := 44) rfl) rfl
theorem wd716 : Cond.code yX7_rowNamed cX7_rowNamed 4 (some .int) ∈ tb := tb_k3 (List.mem_of_getElem? (i := 130) rfl) rfl
theorem wd720 : Cond.code yX7_braidNamed cX7_braidNamed 4 (some .int) ∈ tb := tb_k3 (List.mem_of_getElem? (i := 134) rfl) rfl
theorem wd882 : Cond.code yX7_allNumbers cX7_allNumbers 3 (some .int) ∈ tb := tb_k4 (List.mem_of_getElem? (i := 56) rfl) rfl
theorem wd890 : Cond.code yX7_grow cX7_grow 4 (some .int) ∈ tb := tb_k4 (List.mem_of_getElem? (i := 64) rfl) rfl
theorem wd901 : Cond.code yX7_shrink cX7_shrink 3 (some .int) ∈ tb := tb_k4 (List.mem_of_getElem? (i := 75) rfl) rfl
theorem wd909 : Cond.code yX7_reverse cX7_reverse 3 (some .boolean) ∈ tb := tb_k4 (List.mem_of_getElem? (i := 83) rfl) rfl
theorem wd921 : Cond.code yX7_crossOver cX7_crossOver 4 (some .boolean) ∈ tb := tb_k4 (List.mem_of_getElem? (i := 95) rfl) rfl
theorem wd969 : Cond.code yX7_crossBack cX7_crossBack 4 none ∈ tb := tb_k4 (List.mem_of_getElem? (i := 143) rfl) rfl
theorem wd939 : Cond.code yX7_combine cX7_combine 7 (some .int) ∈ tb := tb_k4 (List.mem_of_getElem? (i := 113) rfl) rfl
theorem wd974 : Cond.code yX7_dropBraid cX7_dropBraid 1 none ∈ tb := tb_k4 (List.mem_of_getElem? (i := 148) rfl) rfl
theorem wd1264 : Cond.code yX7_addSeen cX7_addSeen 4 (some .boolean) ∈ tb := tb_k5 (List.mem_of_getElem? (i := 198) rfl) rfl
theorem wd1276 : Cond.code yX7_agrees cX7_agrees 4 (some .boolean) ∈ tb := tb_k5 (List.mem_of_getElem? (i := 210) rfl) rfl
theorem wd485 : Cond.code yX8_init cX8_init 1 none ∈ tb := tb_k2 (List.mem_of_getElem? (i := 139) rfl) rfl
theorem wd122 : Cond.initialized RX8 ∈ tb := tb_k1 (List.mem_of_getElem? (i := 16) rfl) rfl
theorem wd1094 : Cond.code yX8_pile cX8_pile 9 (some .int) ∈ tb := tb_k5 (List.mem_of_getElem? (i := 28) rfl) rfl
theorem wd1104 : Cond.code yX8_fill cX8_fill 5 none ∈ tb := tb_k5 (List.mem_of_getElem? (i := 38) rfl) rfl
theorem wd1112 : Cond.code yX8_sizeOf cX8_sizeOf 2 (some .int) ∈ tb := tb_k5 (List.mem_of_getElem? (i := 46) rfl) rfl
theorem wd1108 : Cond.code yX8_insert cX8_insert 7 none ∈ tb := tb_k5 (List.mem_of_getElem? (i := 42) rfl) rfl
theorem wd143 : Cond.code yX9_init cX9_init 6 none ∈ tb := tb_k1 (List.mem_of_getElem? (i := 37) rfl) rfl
theorem wd108 : Cond.initialized RX9 ∈ tb := tb_k1 (List.mem_of_getElem? (i := 2) rfl) rfl
theorem wd592 : Cond.code yX9_put cX9_put 6 none ∈ tb := tb_k3 (List.mem_of_getElem? (i := 6) rfl) rfl
theorem wd776 : Cond.code yX9_wipe cX9_wipe 1 none ∈ tb := tb_k3 (List.mem_of_getElem? (i := 190) rfl) rfl
theorem wd616 : Cond.code yX9_advance cX9_advance 1 none ∈ tb := tb_k3 (List.mem_of_getElem? (i := 30) rfl) rfl
theorem wd712 : Cond.code yX9_isName cX9_isName 1 (some .boolean) ∈ tb := tb_k3 (List.mem_of_getElem? (i := 126) rfl) rfl
theorem wd623 : Cond.code yX9_takeWord cX9_takeWord 2 none ∈ tb := tb_k3 (List.mem_of_getElem? (i := 37) rfl) rfl
theorem wd630 : Cond.code yX9_takeNumber cX9_takeNumber 1 none ∈ tb := tb_k3 (List.mem_of_getElem? (i := 44) rfl) rfl
theorem wd634 : Cond.code yX9_takeSign cX9_takeSign 2 none ∈ tb := tb_k3 (List.mem_of_getElem? (i := 48) rfl) rfl
theorem wd619 : Cond.code yX9_isLetter cX9_isLetter 1 (some .boolean) ∈ tb := tb_k3 (List.mem_of_getElem? (i := 33) rfl) rfl
theorem wd626 : Cond.code yX9_isDigit cX9_isDigit 1 (some .boolean) ∈ tb := tb_k3 (List.mem_of_getElem? (i := 40) rfl) rfl
theorem wd196 : Cond.code yX9_withLetter cX9_withLetter 3 (some .long) ∈ tb := tb_k1 (List.mem_of_getElem? (i := 90) rfl) rfl
theorem wd467 : Cond.code yX10_init cX10_init 1 none ∈ tb := tb_k2 (List.mem_of_getElem? (i := 121) rfl) rfl
theorem wd121 : Cond.initialized RX10 ∈ tb := tb_k1 (List.mem_of_getElem? (i := 15) rfl) rfl
theorem wd1124 : Cond.code yX10_fillChains cX10_fillChains 3 none ∈ tb := tb_k5 (List.mem_of_getElem? (i := 58) rfl) rfl
theorem wd1185 : Cond.code yX10_fillCommon cX10_fillCommon 4 none ∈ tb := tb_k5 (List.mem_of_getElem? (i := 119) rfl) rfl
theorem wd1189 : Cond.code yX10_fillCommonFrom cX10_fillCommonFrom 9 none ∈ tb := tb_k5 (List.mem_of_getElem? (i := 123) rfl) rfl
theorem wd1140 : Cond.code yX10_lengthOf cX10_lengthOf 3 (some .int) ∈ tb := tb_k5 (List.mem_of_getElem? (i := 74) rfl) rfl
theorem wd1136 : Cond.code yX10_left cX10_left 3 (some .int) ∈ tb := tb_k5 (List.mem_of_getElem? (i := 70) rfl) rfl
theorem wd1132 : Cond.code yX10_strandFrom cX10_strandFrom 4 (some .int) ∈ tb := tb_k5 (List.mem_of_getElem? (i := 66) rfl) rfl
theorem wd1148 : Cond.code yX10_strandsWithin cX10_strandsWithin 6 (some .int) ∈ tb := tb_k5 (List.mem_of_getElem? (i := 82) rfl) rfl
theorem wd1157 : Cond.code yX10_having cX10_having 5 (some .int) ∈ tb := tb_k5 (List.mem_of_getElem? (i := 91) rfl) rfl
theorem wd1165 : Cond.code yX10_bestFrom cX10_bestFrom 4 (some .int) ∈ tb := tb_k5 (List.mem_of_getElem? (i := 99) rfl) rfl
theorem wd1173 : Cond.code yX10_narrowest cX10_narrowest 4 (some .int) ∈ tb := tb_k5 (List.mem_of_getElem? (i := 107) rfl) rfl
theorem wd135 : Cond.code yX11_init cX11_init 2 none ∈ tb := tb_k1 (List.mem_of_getElem? (i := 29) rfl) rfl
theorem wd107 : Cond.initialized RX11 ∈ tb := tb_k1 (List.mem_of_getElem? (i := 1) rfl) rfl
theorem wd588 : Cond.code yX11_feed cX11_feed 7 (some .int) ∈ tb := tb_k3 (List.mem_of_getElem? (i := 2) rfl) rfl
theorem wd596 : Cond.code yX11_index cX11_index 3 (some .int) ∈ tb := tb_k3 (List.mem_of_getElem? (i := 10) rfl) rfl
theorem wd801 : Cond.code yX11_work cX11_work 2 (some .int) ∈ tb := tb_k3 (List.mem_of_getElem? (i := 215) rfl) rfl
theorem wd850 : Cond.code yX11_row cX11_row 4 (some .int) ∈ tb := tb_k4 (List.mem_of_getElem? (i := 24) rfl) rfl
theorem wd858 : Cond.code yX11_item cX11_item 4 (some .int) ∈ tb := tb_k4 (List.mem_of_getElem? (i := 32) rfl) rfl
theorem wd1306 : Cond.code yX11_weight cX11_weight 4 (some .int) ∈ tb := tb_k6 (List.mem_of_getElem? (i := 0) rfl) rfl
theorem wd866 : Cond.code yX11_braid cX11_braid 4 (some .int) ∈ tb := tb_k4 (List.mem_of_getElem? (i := 40) rfl) rfl
theorem wd878 : Cond.code yX11_count cX11_count 2 (some .int) ∈ tb := tb_k4 (List.mem_of_getElem? (i := 52) rfl) rfl
theorem wd886 : Cond.code yX11_append cX11_append 4 (some .int) ∈ tb := tb_k4 (List.mem_of_getElem? (i := 60) rfl) rfl
theorem wd897 : Cond.code yX11_cut cX11_cut 3 (some .int) ∈ tb := tb_k4 (List.mem_of_getElem? (i := 71) rfl) rfl
theorem wd905 : Cond.code yX11_turn cX11_turn 3 (some .boolean) ∈ tb := tb_k4 (List.mem_of_getElem? (i := 79) rfl) rfl
theorem wd917 : Cond.code yX11_cross cX11_cross 4 (some .boolean) ∈ tb := tb_k4 (List.mem_of_getElem? (i := 91) rfl) rfl
theorem wd935 : Cond.code yX11_keep cX11_keep 5 (some .int) ∈ tb := tb_k4 (List.mem_of_getElem? (i := 109) rfl) rfl
theorem wd962 : Cond.code yX11_undo cX11_undo 4 (some .boolean) ∈ tb := tb_k4 (List.mem_of_getElem? (i := 136) rfl) rfl
theorem wd978 : Cond.code yX11_mark cX11_mark 3 (some .boolean) ∈ tb := tb_k4 (List.mem_of_getElem? (i := 152) rfl) rfl
theorem wd982 : Cond.code yX11_judged cX11_judged 5 (some .int) ∈ tb := tb_k4 (List.mem_of_getElem? (i := 156) rfl) rfl
theorem wd986 : Cond.code yX11_doLine cX11_doLine 5 (some .boolean) ∈ tb := tb_k4 (List.mem_of_getElem? (i := 160) rfl) rfl
theorem wd990 : Cond.code yX11_chain cX11_chain 4 (some .int) ∈ tb := tb_k4 (List.mem_of_getElem? (i := 164) rfl) rfl
theorem wd1038 : Cond.code yX11_pick cX11_pick 5 (some .int) ∈ tb := tb_k4 (List.mem_of_getElem? (i := 212) rfl) rfl
theorem wd1046 : Cond.code yX11_ways cX11_ways 4 (some .int) ∈ tb := tb_k4 (List.mem_of_getElem? (i := 220) rfl) rfl
theorem wd1062 : Cond.code yX11_must cX11_must 4 (some .int) ∈ tb := tb_k4 (List.mem_of_getElem? (i := 236) rfl) rfl
theorem wd1078 : Cond.code yX11_may cX11_may 4 (some .int) ∈ tb := tb_k5 (List.mem_of_getElem? (i := 12) rfl) rfl
theorem wd1086 : Cond.code yX11_bare cX11_bare 4 (some .int) ∈ tb := tb_k5 (List.mem_of_getElem? (i := 20) rfl) rfl
theorem wd1090 : Cond.code yX11_piles cX11_piles 6 (some .int) ∈ tb := tb_k5 (List.mem_of_getElem? (i := 24) rfl) rfl
theorem wd1100 : Cond.code yX11_shape cX11_shape 6 (some .int) ∈ tb := tb_k5 (List.mem_of_getElem? (i := 34) rfl) rfl
theorem wd998 : Cond.code yX11_isWindow cX11_isWindow 4 (some .boolean) ∈ tb := tb_k4 (List.mem_of_getElem? (i := 172) rfl) rfl
theorem wd994 : Cond.code yX11_loadWindow cX11_loadWindow 5 (some .boolean) ∈ tb := tb_k4 (List.mem_of_getElem? (i := 168) rfl) rfl
theorem wd1116 : Cond.code yX11_strand cX11_strand 4 (some .int) ∈ tb := tb_k5 (List.mem_of_getElem? (i := 50) rfl) rfl
theorem wd1144 : Cond.code yX11_under cX11_under 5 (some .int) ∈ tb := tb_k5 (List.mem_of_getElem? (i := 78) rfl) rfl
theorem wd1153 : Cond.code yX11_how cX11_how 4 (some .int) ∈ tb := tb_k5 (List.mem_of_getElem? (i := 87) rfl) rfl
theorem wd1161 : Cond.code yX11_best cX11_best 4 (some .int) ∈ tb := tb_k5 (List.mem_of_getElem? (i := 95) rfl) rfl
theorem wd1169 : Cond.code yX11_near cX11_near 4 (some .int) ∈ tb := tb_k5 (List.mem_of_getElem? (i := 103) rfl) rfl
theorem wd1120 : Cond.code yX11_fillWindows cX11_fillWindows 2 none ∈ tb := tb_k5 (List.mem_of_getElem? (i := 54) rfl) rfl
theorem wd1177 : Cond.code yX11_common cX11_common 7 (some .int) ∈ tb := tb_k5 (List.mem_of_getElem? (i := 111) rfl) rfl
theorem wd1195 : Cond.code yX11_meets cX11_meets 6 (some .int) ∈ tb := tb_k5 (List.mem_of_getElem? (i := 129) rfl) rfl
theorem wd1181 : Cond.code yX11_fillCommon cX11_fillCommon 3 none ∈ tb := tb_k5 (List.mem_of_getElem? (i := 115) rfl) rfl
theorem wd1199 : Cond.code yX11_ends cX11_ends 4 (some .int) ∈ tb := tb_k5 (List.mem_of_getElem? (i := 133) rfl) rfl
theorem wd1207 : Cond.code yX11_counts cX11_counts 5 (some .int) ∈ tb := tb_k5 (List.mem_of_getElem? (i := 141) rfl) rfl
theorem wd1216 : Cond.code yX11_compose cX11_compose 6 (some .int) ∈ tb := tb_k5 (List.mem_of_getElem? (i := 150) rfl) rfl
theorem wd1222 : Cond.code yX11_power cX11_power 5 (some .int) ∈ tb := tb_k5 (List.mem_of_getElem? (i := 156) rfl) rfl
theorem wd1236 : Cond.code yX11_settles cX11_settles 4 (some .int) ∈ tb := tb_k5 (List.mem_of_getElem? (i := 170) rfl) rfl
theorem wd1240 : Cond.code yX11_knit cX11_knit 4 (some .int) ∈ tb := tb_k5 (List.mem_of_getElem? (i := 174) rfl) rfl
theorem wd1252 : Cond.code yX11_below cX11_below 5 (some .boolean) ∈ tb := tb_k5 (List.mem_of_getElem? (i := 186) rfl) rfl
theorem wd942 : Cond.code yX11_areAlike cX11_areAlike 2 (some .boolean) ∈ tb := tb_k4 (List.mem_of_getElem? (i := 116) rfl) rfl
theorem wd1260 : Cond.code yX11_see cX11_see 4 (some .boolean) ∈ tb := tb_k5 (List.mem_of_getElem? (i := 194) rfl) rfl
theorem wd1268 : Cond.code yX11_fits cX11_fits 3 (some .int) ∈ tb := tb_k5 (List.mem_of_getElem? (i := 202) rfl) rfl
theorem wd1280 : Cond.code yX11_first cX11_first 5 (some .int) ∈ tb := tb_k5 (List.mem_of_getElem? (i := 214) rfl) rfl
theorem wd1284 : Cond.code yX11_ask cX11_ask 9 (some .int) ∈ tb := tb_k5 (List.mem_of_getElem? (i := 218) rfl) rfl
theorem wd1272 : Cond.code yX11_tallyFits cX11_tallyFits 7 (some .int) ∈ tb := tb_k5 (List.mem_of_getElem? (i := 206) rfl) rfl
theorem wd1289 : Cond.code yX11_drawn cX11_drawn 5 (some .int) ∈ tb := tb_k5 (List.mem_of_getElem? (i := 223) rfl) rfl
theorem wd1293 : Cond.code yX11_draw cX11_draw 7 none ∈ tb := tb_k5 (List.mem_of_getElem? (i := 227) rfl) rfl
theorem wd1376 : Cond.code yX12_thrown cX12_thrown 1 (some .int) ∈ tb := tb_k6 (List.mem_of_getElem? (i := 70) rfl) rfl
theorem wd124 : Cond.initialized RX12 ∈ tb := tb_k1 (List.mem_of_getElem? (i := 18) rfl) rfl
theorem wd1380 : Cond.code yX12_feed cX12_feed 7 (some .int) ∈ tb := tb_k6 (List.mem_of_getElem? (i := 74) rfl) rfl
theorem wd1385 : Cond.code yX12_lay cX12_lay 5 none ∈ tb := tb_k6 (List.mem_of_getElem? (i := 79) rfl) rfl
theorem wd1389 : Cond.code yX12_init cX12_init 1 none ∈ tb := tb_k6 (List.mem_of_getElem? (i := 83) rfl) rfl
theorem wd1563 : Cond.code yX12_isLetter cX12_isLetter 1 (some .boolean) ∈ tb := tb_k7 (List.mem_of_getElem? (i := 17) rfl) rfl
theorem wd1570 : Cond.code yX12_isDigit cX12_isDigit 1 (some .boolean) ∈ tb := tb_k7 (List.mem_of_getElem? (i := 24) rfl) rfl
theorem wd1567 : Cond.code yX12_rank cX12_rank 1 (some .int) ∈ tb := tb_k7 (List.mem_of_getElem? (i := 21) rfl) rfl
theorem wd1575 : Cond.code yX12_isSignOf cX12_isSignOf 1 (some .boolean) ∈ tb := tb_k7 (List.mem_of_getElem? (i := 29) rfl) rfl
theorem wd1560 : Cond.code yX12_cutAll cX12_cutAll 7 none ∈ tb := tb_k7 (List.mem_of_getElem? (i := 14) rfl) rfl
theorem wd1599 : Cond.code yX12_wrong cX12_wrong 2 none ∈ tb := tb_k7 (List.mem_of_getElem? (i := 53) rfl) rfl
theorem wd1627 : Cond.code yX12_isSign cX12_isSign 2 (some .boolean) ∈ tb := tb_k7 (List.mem_of_getElem? (i := 81) rfl) rfl
theorem wd1583 : Cond.code yX12_isWord cX12_isWord 2 (some .boolean) ∈ tb := tb_k7 (List.mem_of_getElem? (i := 37) rfl) rfl
theorem wd1663 : Cond.code yX12_takeSign cX12_takeSign 2 none ∈ tb := tb_k7 (List.mem_of_getElem? (i := 117) rfl) rfl
theorem wd1659 : Cond.code yX12_hasSign cX12_hasSign 3 (some .boolean) ∈ tb := tb_k7 (List.mem_of_getElem? (i := 113) rfl) rfl
theorem wd1651 : Cond.code yX12_hasWord cX12_hasWord 3 (some .boolean) ∈ tb := tb_k7 (List.mem_of_getElem? (i := 105) rfl) rfl
theorem wd1790 : Cond.code yX12_within cX12_within 3 (some .boolean) ∈ tb := tb_k8 (List.mem_of_getElem? (i := 4) rfl) rfl
theorem wd1413 : Cond.code yX12_standsAsAlways cX12_standsAsAlways 3 none ∈ tb := tb_k6 (List.mem_of_getElem? (i := 107) rfl) rfl
theorem wd1619 : Cond.code yX12_takeNumber cX12_takeNumber 3 (some .int) ∈ tb := tb_k7 (List.mem_of_getElem? (i := 73) rfl) rfl
theorem wd1607 : Cond.code yX12_wordHere cX12_wordHere 5 (some .int) ∈ tb := tb_k7 (List.mem_of_getElem? (i := 61) rfl) rfl
theorem wd1615 : Cond.code yX12_takeOne cX12_takeOne 4 (some .int) ∈ tb := tb_k7 (List.mem_of_getElem? (i := 69) rfl) rfl
theorem wd1603 : Cond.code yX12_isName cX12_isName 1 (some .boolean) ∈ tb := tb_k7 (List.mem_of_getElem? (i := 57) rfl) rfl
theorem wd1611 : Cond.code yX12_nameAt cX12_nameAt 5 (some .int) ∈ tb := tb_k7 (List.mem_of_getElem? (i := 65) rfl) rfl
theorem wd1671 : Cond.code yX12_takeTold cX12_takeTold 4 (some .int) ∈ tb := tb_k7 (List.mem_of_getElem? (i := 125) rfl) rfl
theorem wd1556 : Cond.code yX12_index cX12_index 2 (some .int) ∈ tb := tb_k7 (List.mem_of_getElem? (i := 10) rfl) rfl
theorem wd1591 : Cond.code yX12_read cX12_read 2 (some .int) ∈ tb := tb_k7 (List.mem_of_getElem? (i := 45) rfl) rfl
theorem wd1595 : Cond.code yX12_readName cX12_readName 3 none ∈ tb := tb_k7 (List.mem_of_getElem? (i := 49) rfl) rfl
theorem wd1579 : Cond.code yX12_readLine cX12_readLine 1 none ∈ tb := tb_k7 (List.mem_of_getElem? (i := 33) rfl) rfl
theorem wd1587 : Cond.code yX12_readRow cX12_readRow 6 none ∈ tb := tb_k7 (List.mem_of_getElem? (i := 41) rfl) rfl
theorem wd1623 : Cond.code yX12_readBraid cX12_readBraid 6 none ∈ tb := tb_k7 (List.mem_of_getElem? (i := 77) rfl) rfl
theorem wd1667 : Cond.code yX12_work cX12_work 4 (some .int) ∈ tb := tb_k7 (List.mem_of_getElem? (i := 121) rfl) rfl
theorem wd1655 : Cond.code yX12_emit cX12_emit 3 none ∈ tb := tb_k7 (List.mem_of_getElem? (i := 109) rfl) rfl
theorem wd1631 : Cond.code yX12_allOf cX12_allOf 3 none ∈ tb := tb_k7 (List.mem_of_getElem? (i := 85) rfl) rfl
theorem wd1635 : Cond.code yX12_test cX12_test 3 none ∈ tb := tb_k7 (List.mem_of_getElem? (i := 89) rfl) rfl
theorem wd1639 : Cond.code yX12_sums cX12_sums 3 none ∈ tb := tb_k7 (List.mem_of_getElem? (i := 93) rfl) rfl
theorem wd1643 : Cond.code yX12_products cX12_products 2 none ∈ tb := tb_k7 (List.mem_of_getElem? (i := 97) rfl) rfl
theorem wd1647 : Cond.code yX12_takePart cX12_takePart 4 none ∈ tb := tb_k7 (List.mem_of_getElem? (i := 101) rfl) rfl
theorem wd1710 : Cond.code yX12_worthAt cX12_worthAt 5 (some .int) ∈ tb := tb_k7 (List.mem_of_getElem? (i := 164) rfl) rfl
theorem wd1713 : Cond.code yX12_worked cX12_worked 3 (some .int) ∈ tb := tb_k7 (List.mem_of_getElem? (i := 167) rfl) rfl
theorem wd1928 : Cond.code yX12_moves cX12_moves 5 none ∈ tb := tb_k8 (List.mem_of_getElem? (i := 142) rfl) rfl
theorem wd1421 : Cond.code yX12_starts cX12_starts 4 none ∈ tb := tb_k6 (List.mem_of_getElem? (i := 115) rfl) rfl
theorem wd1417 : Cond.code yX12_begins cX12_begins 2 none ∈ tb := tb_k6 (List.mem_of_getElem? (i := 111) rfl) rfl
theorem wd1924 : Cond.code yX12_keeps cX12_keeps 2 none ∈ tb := tb_k8 (List.mem_of_getElem? (i := 138) rfl) rfl
theorem wd1425 : Cond.code yX12_rows cX12_rows 1 (some .int) ∈ tb := tb_k6 (List.mem_of_getElem? (i := 119) rfl) rfl
theorem wd1699 : Cond.code yX12_kindOf cX12_kindOf 2 (some .int) ∈ tb := tb_k7 (List.mem_of_getElem? (i := 153) rfl) rfl
theorem wd1687 : Cond.code yX12_manyOf cX12_manyOf 3 (some .int) ∈ tb := tb_k7 (List.mem_of_getElem? (i := 141) rfl) rfl
theorem wd1702 : Cond.code yX12_numberAt cX12_numberAt 3 (some .int) ∈ tb := tb_k7 (List.mem_of_getElem? (i := 156) rfl) rfl
theorem wd1683 : Cond.code yX12_isRow cX12_isRow 2 (some .boolean) ∈ tb := tb_k7 (List.mem_of_getElem? (i := 137) rfl) rfl
theorem wd1775 : Cond.code yX12_isPlace cX12_isPlace 3 (some .boolean) ∈ tb := tb_k7 (List.mem_of_getElem? (i := 229) rfl) rfl
theorem wd1679 : Cond.code yX12_isWindow cX12_isWindow 4 (some .boolean) ∈ tb := tb_k7 (List.mem_of_getElem? (i := 133) rfl) rfl
theorem wd1830 : Cond.code yX12_isBraid cX12_isBraid 2 (some .boolean) ∈ tb := tb_k8 (List.mem_of_getElem? (i := 44) rfl) rfl
theorem wd1834 : Cond.code yX12_strandsOf cX12_strandsOf 2 (some .int) ∈ tb := tb_k8 (List.mem_of_getElem? (i := 48) rfl) rfl
theorem wd1842 : Cond.code yX12_endOf cX12_endOf 3 (some .int) ∈ tb := tb_k8 (List.mem_of_getElem? (i := 56) rfl) rfl
theorem wd1706 : Cond.code yX12_weighs cX12_weighs 5 (some .int) ∈ tb := tb_k7 (List.mem_of_getElem? (i := 160) rfl) rfl
theorem wd1695 : Cond.code yX12_laysRow cX12_laysRow 3 none ∈ tb := tb_k7 (List.mem_of_getElem? (i := 149) rfl) rfl
theorem wd1725 : Cond.code yX12_follows cX12_follows 3 (some .boolean) ∈ tb := tb_k7 (List.mem_of_getElem? (i := 179) rfl) rfl
theorem wd1729 : Cond.code yX12_longAt cX12_longAt 3 (some .int) ∈ tb := tb_k7 (List.mem_of_getElem? (i := 183) rfl) rfl
theorem wd1721 : Cond.code yX12_findsEnding cX12_findsEnding 5 none ∈ tb := tb_k7 (List.mem_of_getElem? (i := 175) rfl) rfl
theorem wd1737 : Cond.code yX12_findsStarting cX12_findsStarting 5 none ∈ tb := tb_k7 (List.mem_of_getElem? (i := 191) rfl) rfl
theorem wd1717 : Cond.code yX12_findsLongs cX12_findsLongs 4 none ∈ tb := tb_k7 (List.mem_of_getElem? (i := 171) rfl) rfl
theorem wd1691 : Cond.code yX12_laysAll cX12_laysAll 2 none ∈ tb := tb_k7 (List.mem_of_getElem? (i := 145) rfl) rfl
theorem wd1675 : Cond.code yX12_chain cX12_chain 4 (some .int) ∈ tb := tb_k7 (List.mem_of_getElem? (i := 129) rfl) rfl
theorem wd1733 : Cond.code yX12_pick cX12_pick 9 (some .int) ∈ tb := tb_k7 (List.mem_of_getElem? (i := 187) rfl) rfl
theorem wd1741 : Cond.code yX12_ways cX12_ways 4 (some .int) ∈ tb := tb_k7 (List.mem_of_getElem? (i := 195) rfl) rfl
theorem wd1745 : Cond.code yX12_waysOf cX12_waysOf 6 (some .int) ∈ tb := tb_k7 (List.mem_of_getElem? (i := 199) rfl) rfl
theorem wd1755 : Cond.code yX12_mayOf cX12_mayOf 5 (some .int) ∈ tb := tb_k7 (List.mem_of_getElem? (i := 209) rfl) rfl
theorem wd1751 : Cond.code yX12_may cX12_may 4 (some .int) ∈ tb := tb_k7 (List.mem_of_getElem? (i := 205) rfl) rfl
theorem wd1759 : Cond.code yX12_must cX12_must 9 (some .int) ∈ tb := tb_k7 (List.mem_of_getElem? (i := 213) rfl) rfl
theorem wd1767 : Cond.code yX12_bareAt cX12_bareAt 3 (some .int) ∈ tb := tb_k7 (List.mem_of_getElem? (i := 221) rfl) rfl
theorem wd1779 : Cond.code yX12_strandOf cX12_strandOf 3 (some .int) ∈ tb := tb_k7 (List.mem_of_getElem? (i := 233) rfl) rfl
theorem wd1763 : Cond.code yX12_bare cX12_bare 4 (some .int) ∈ tb := tb_k7 (List.mem_of_getElem? (i := 217) rfl) rfl
theorem wd1771 : Cond.code yX12_strand cX12_strand 3 (some .int) ∈ tb := tb_k7 (List.mem_of_getElem? (i := 225) rfl) rfl
theorem wd1783 : Cond.code yX12_under cX12_under 7 (some .int) ∈ tb := tb_k7 (List.mem_of_getElem? (i := 237) rfl) rfl
theorem wd1787 : Cond.code yX12_how cX12_how 6 (some .int) ∈ tb := tb_k8 (List.mem_of_getElem? (i := 1) rfl) rfl
theorem wd1794 : Cond.code yX12_best cX12_best 5 (some .int) ∈ tb := tb_k8 (List.mem_of_getElem? (i := 8) rfl) rfl
theorem wd1798 : Cond.code yX12_near cX12_near 5 (some .int) ∈ tb := tb_k8 (List.mem_of_getElem? (i := 12) rfl) rfl
theorem wd1802 : Cond.code yX12_piles cX12_piles 8 (some .int) ∈ tb := tb_k8 (List.mem_of_getElem? (i := 16) rfl) rfl
theorem wd1806 : Cond.code yX12_shape cX12_shape 6 (some .int) ∈ tb := tb_k8 (List.mem_of_getElem? (i := 20) rfl) rfl
theorem wd1810 : Cond.code yX12_inserts cX12_inserts 7 none ∈ tb := tb_k8 (List.mem_of_getElem? (i := 24) rfl) rfl
theorem wd1818 : Cond.code yX12_findsCommon cX12_findsCommon 10 none ∈ tb := tb_k8 (List.mem_of_getElem? (i := 32) rfl) rfl
theorem wd1814 : Cond.code yX12_common cX12_common 5 (some .int) ∈ tb := tb_k8 (List.mem_of_getElem? (i := 28) rfl) rfl
theorem wd1822 : Cond.code yX12_meets cX12_meets 4 (some .int) ∈ tb := tb_k8 (List.mem_of_getElem? (i := 36) rfl) rfl
theorem wd1857 : Cond.code yX12_countOf cX12_countOf 6 (some .int) ∈ tb := tb_k8 (List.mem_of_getElem? (i := 71) rfl) rfl
theorem wd1872 : Cond.code yX12_laysCounts cX12_laysCounts 5 none ∈ tb := tb_k8 (List.mem_of_getElem? (i := 86) rfl) rfl
theorem wd1854 : Cond.code yX12_laysBraid cX12_laysBraid 5 none ∈ tb := tb_k8 (List.mem_of_getElem? (i := 68) rfl) rfl
theorem wd1869 : Cond.code yX12_composes cX12_composes 7 none ∈ tb := tb_k8 (List.mem_of_getElem? (i := 83) rfl) rfl
theorem wd1838 : Cond.code yX12_crossingsOf cX12_crossingsOf 5 (some .int) ∈ tb := tb_k8 (List.mem_of_getElem? (i := 52) rfl) rfl
theorem wd1826 : Cond.code yX12_braid cX12_braid 3 (some .int) ∈ tb := tb_k8 (List.mem_of_getElem? (i := 40) rfl) rfl
theorem wd1846 : Cond.code yX12_ends cX12_ends 3 (some .int) ∈ tb := tb_k8 (List.mem_of_getElem? (i := 60) rfl) rfl
theorem wd1850 : Cond.code yX12_counts cX12_counts 4 (some .int) ∈ tb := tb_k8 (List.mem_of_getElem? (i := 64) rfl) rfl
theorem wd1865 : Cond.code yX12_areAlike cX12_areAlike 4 (some .boolean) ∈ tb := tb_k8 (List.mem_of_getElem? (i := 79) rfl) rfl
theorem wd1861 : Cond.code yX12_compose cX12_compose 4 (some .int) ∈ tb := tb_k8 (List.mem_of_getElem? (i := 75) rfl) rfl
theorem wd1880 : Cond.code yX12_powers cX12_powers 6 (some .boolean) ∈ tb := tb_k8 (List.mem_of_getElem? (i := 94) rfl) rfl
theorem wd1876 : Cond.code yX12_power cX12_power 4 (some .int) ∈ tb := tb_k8 (List.mem_of_getElem? (i := 90) rfl) rfl
theorem wd1884 : Cond.code yX12_settles cX12_settles 3 (some .int) ∈ tb := tb_k8 (List.mem_of_getElem? (i := 98) rfl) rfl
theorem wd1888 : Cond.code yX12_knit cX12_knit 7 (some .int) ∈ tb := tb_k8 (List.mem_of_getElem? (i := 102) rfl) rfl
theorem wd1892 : Cond.code yX12_below cX12_below 7 (some .boolean) ∈ tb := tb_k8 (List.mem_of_getElem? (i := 106) rfl) rfl
theorem wd1896 : Cond.code yX12_row cX12_row 3 (some .int) ∈ tb := tb_k8 (List.mem_of_getElem? (i := 110) rfl) rfl
theorem wd1900 : Cond.code yX12_item cX12_item 3 (some .int) ∈ tb := tb_k8 (List.mem_of_getElem? (i := 114) rfl) rfl
theorem wd1904 : Cond.code yX12_weight cX12_weight 3 (some .int) ∈ tb := tb_k8 (List.mem_of_getElem? (i := 118) rfl) rfl
theorem wd1916 : Cond.code yX12_mayDo cX12_mayDo 5 (some .boolean) ∈ tb := tb_k8 (List.mem_of_getElem? (i := 130) rfl) rfl
theorem wd1920 : Cond.code yX12_strandAt cX12_strandAt 5 (some .int) ∈ tb := tb_k8 (List.mem_of_getElem? (i := 134) rfl) rfl
theorem wd1932 : Cond.code yX12_does cX12_does 8 none ∈ tb := tb_k8 (List.mem_of_getElem? (i := 146) rfl) rfl
theorem wd1912 : Cond.code yX12_isDone cX12_isDone 4 (some .boolean) ∈ tb := tb_k8 (List.mem_of_getElem? (i := 126) rfl) rfl
theorem wd1908 : Cond.code yX12_append cX12_append 3 (some .int) ∈ tb := tb_k8 (List.mem_of_getElem? (i := 122) rfl) rfl
theorem wd1936 : Cond.code yX12_cut cX12_cut 2 (some .int) ∈ tb := tb_k8 (List.mem_of_getElem? (i := 150) rfl) rfl
theorem wd1940 : Cond.code yX12_turn cX12_turn 2 (some .boolean) ∈ tb := tb_k8 (List.mem_of_getElem? (i := 154) rfl) rfl
theorem wd1944 : Cond.code yX12_cross cX12_cross 3 (some .boolean) ∈ tb := tb_k8 (List.mem_of_getElem? (i := 158) rfl) rfl
theorem wd1948 : Cond.code yX12_keep cX12_keep 3 (some .int) ∈ tb := tb_k8 (List.mem_of_getElem? (i := 162) rfl) rfl
theorem wd1952 : Cond.code yX12_undo cX12_undo 1 (some .boolean) ∈ tb := tb_k8 (List.mem_of_getElem? (i := 166) rfl) rfl
theorem wd1960 : Cond.code yX12_numbersOf cX12_numbersOf 4 (some .int) ∈ tb := tb_k8 (List.mem_of_getElem? (i := 174) rfl) rfl
theorem wd1956 : Cond.code yX12_judged cX12_judged 6 (some .int) ∈ tb := tb_k8 (List.mem_of_getElem? (i := 170) rfl) rfl
theorem wd1964 : Cond.code yX12_see cX12_see 5 (some .boolean) ∈ tb := tb_k8 (List.mem_of_getElem? (i := 178) rfl) rfl
theorem wd1976 : Cond.code yX12_isAsSeen cX12_isAsSeen 7 (some .boolean) ∈ tb := tb_k8 (List.mem_of_getElem? (i := 190) rfl) rfl
theorem wd1972 : Cond.code yX12_fitting cX12_fitting 5 (some .int) ∈ tb := tb_k8 (List.mem_of_getElem? (i := 186) rfl) rfl
theorem wd1968 : Cond.code yX12_fits cX12_fits 2 (some .int) ∈ tb := tb_k8 (List.mem_of_getElem? (i := 182) rfl) rfl
theorem wd1980 : Cond.code yX12_first cX12_first 4 (some .int) ∈ tb := tb_k8 (List.mem_of_getElem? (i := 194) rfl) rfl
theorem wd1984 : Cond.code yX12_ask cX12_ask 8 (some .int) ∈ tb := tb_k8 (List.mem_of_getElem? (i := 198) rfl) rfl
theorem wd1992 : Cond.code yX12_draw cX12_draw 2 (some .int) ∈ tb := tb_k8 (List.mem_of_getElem? (i := 206) rfl) rfl
theorem wd1988 : Cond.code yX12_drawn cX12_drawn 7 (some .int) ∈ tb := tb_k8 (List.mem_of_getElem? (i := 202) rfl) rfl
theorem wd2000 : Cond.code yX12_mark cX12_mark 3 (some .boolean) ∈ tb := tb_k8 (List.mem_of_getElem? (i := 214) rfl) rfl
theorem wd2004 : Cond.code yX12_count cX12_count 2 (some .int) ∈ tb := tb_k8 (List.mem_of_getElem? (i := 218) rfl) rfl
theorem wd530 : Cond.fieldLink RX11 10 "ChainIndex" "tape" "LChainIndex$Tape;" ∈ tb := tb_k2 (List.mem_of_getElem? (i := 184) rfl) rfl
theorem wd531 : Cond.fieldLink RX11 19 "ChainIndex" "reader" "LChainIndex$Reader;" ∈ tb := tb_k2 (List.mem_of_getElem? (i := 185) rfl) rfl
theorem wd532 : Cond.fieldLink RX11 26 "ChainIndex" "live" "LChainIndex$Store;" ∈ tb := tb_k2 (List.mem_of_getElem? (i := 186) rfl) rfl
theorem wd533 : Cond.fieldLink RX11 30 "ChainIndex" "told" "LChainIndex$Store;" ∈ tb := tb_k2 (List.mem_of_getElem? (i := 187) rfl) rfl
theorem wd534 : Cond.fieldLink RX11 33 "ChainIndex" "trial" "LChainIndex$Store;" ∈ tb := tb_k2 (List.mem_of_getElem? (i := 188) rfl) rfl
theorem wd535 : Cond.fieldLink RX11 36 "ChainIndex" "marks" "[LChainIndex$Store;" ∈ tb := tb_k2 (List.mem_of_getElem? (i := 189) rfl) rfl
theorem wd536 : Cond.fieldLink RX11 40 "ChainIndex" "laid" "[Z" ∈ tb := tb_k2 (List.mem_of_getElem? (i := 190) rfl) rfl
theorem wd537 : Cond.fieldLink RX11 47 "ChainIndex" "law" "LChainIndex$Law;" ∈ tb := tb_k2 (List.mem_of_getElem? (i := 191) rfl) rfl
theorem wd538 : Cond.fieldLink RX11 56 "ChainIndex" "lines" "LChainIndex$Deeds;" ∈ tb := tb_k2 (List.mem_of_getElem? (i := 192) rfl) rfl
theorem wd539 : Cond.fieldLink RX11 60 "ChainIndex" "history" "LChainIndex$Deeds;" ∈ tb := tb_k2 (List.mem_of_getElem? (i := 193) rfl) rfl
theorem wd540 : Cond.fieldLink RX11 66 "ChainIndex" "chains" "LChainIndex$Chains;" ∈ tb := tb_k2 (List.mem_of_getElem? (i := 194) rfl) rfl
theorem wd541 : Cond.fieldLink RX11 70 "ChainIndex" "others" "LChainIndex$Chains;" ∈ tb := tb_k2 (List.mem_of_getElem? (i := 195) rfl) rfl
theorem wd542 : Cond.fieldLink RX11 76 "ChainIndex" "windows" "LChainIndex$Windows;" ∈ tb := tb_k2 (List.mem_of_getElem? (i := 196) rfl) rfl
theorem wd543 : Cond.fieldLink RX11 83 "ChainIndex" "tableau" "LChainIndex$Tableau;" ∈ tb := tb_k2 (List.mem_of_getElem? (i := 197) rfl) rfl
theorem wd544 : Cond.fieldLink RX11 90 "ChainIndex" "composer" "LChainIndex$Composer;" ∈ tb := tb_k2 (List.mem_of_getElem? (i := 198) rfl) rfl
theorem wd545 : Cond.fieldLink RX11 97 "ChainIndex" "draws" "LChainIndex$Row;" ∈ tb := tb_k2 (List.mem_of_getElem? (i := 199) rfl) rfl
theorem wd546 : Cond.fieldLink RX11 101 "ChainIndex" "tally" "[I" ∈ tb := tb_k2 (List.mem_of_getElem? (i := 200) rfl) rfl
theorem wd200 : Cond.fieldLink RX11 109 "ChainIndex$Tape" "length" "I" ∈ tb := tb_k1 (List.mem_of_getElem? (i := 94) rfl) rfl
theorem wd385 : Cond.fieldLink RX11 120 "ChainIndex$Reader" "store" "LChainIndex$Store;" ∈ tb := tb_k2 (List.mem_of_getElem? (i := 39) rfl) rfl
theorem wd387 : Cond.fieldLink RX11 127 "ChainIndex$Reader" "law" "LChainIndex$Law;" ∈ tb := tb_k2 (List.mem_of_getElem? (i := 41) rfl) rfl
theorem wd374 : Cond.fieldLink RX11 131 "ChainIndex$Deeds" "size" "I" ∈ tb := tb_k2 (List.mem_of_getElem? (i := 28) rfl) rfl
theorem wd322 : Cond.fieldLink RX11 134 "ChainIndex$Store" "braidCount" "I" ∈ tb := tb_k1 (List.mem_of_getElem? (i := 216) rfl) rfl
theorem wd547 : Cond.fieldLink RX11 137 "ChainIndex" "made" "I" ∈ tb := tb_k2 (List.mem_of_getElem? (i := 201) rfl) rfl
theorem wd389 : Cond.fieldLink RX11 144 "ChainIndex$Reader" "work" "LChainIndex$Deeds;" ∈ tb := tb_k2 (List.mem_of_getElem? (i := 43) rfl) rfl
theorem wd265 : Cond.fieldLink RX11 154 "ChainIndex$Row" "kind" "I" ∈ tb := tb_k1 (List.mem_of_getElem? (i := 159) rfl) rfl
theorem wd270 : Cond.fieldLink RX11 157 "ChainIndex$Row" "many" "I" ∈ tb := tb_k1 (List.mem_of_getElem? (i := 164) rfl) rfl
theorem wd259 : Cond.fieldLink RX11 164 "ChainIndex$Row" "numbers" "[I" ∈ tb := tb_k1 (List.mem_of_getElem? (i := 153) rfl) rfl
theorem wd297 : Cond.fieldLink RX11 182 "ChainIndex$Braid" "strands" "I" ∈ tb := tb_k1 (List.mem_of_getElem? (i := 191) rfl) rfl
theorem wd299 : Cond.fieldLink RX11 191 "ChainIndex$Braid" "made" "I" ∈ tb := tb_k1 (List.mem_of_getElem? (i := 193) rfl) rfl
theorem wd320 : Cond.fieldLink RX11 192 "ChainIndex$Store" "rowCount" "I" ∈ tb := tb_k1 (List.mem_of_getElem? (i := 214) rfl) rfl
theorem wd325 : Cond.fieldLink RX11 198 "ChainIndex$Store" "seenCount" "I" ∈ tb := tb_k1 (List.mem_of_getElem? (i := 219) rfl) rfl
theorem wd440 : Cond.fieldLink RX11 248 "ChainIndex$Chains" "longest" "I" ∈ tb := tb_k2 (List.mem_of_getElem? (i := 94) rfl) rfl
theorem wd291 : Cond.fieldLink RX11 321 "ChainIndex$Braid" "ends" "[I" ∈ tb := tb_k1 (List.mem_of_getElem? (i := 185) rfl) rfl
theorem wd508 : Cond.fieldLink RX11 331 "ChainIndex$Composer" "result" "LChainIndex$Braid;" ∈ tb := tb_k2 (List.mem_of_getElem? (i := 162) rfl) rfl
theorem wd510 : Cond.fieldLink RX11 343 "ChainIndex$Composer" "power" "LChainIndex$Braid;" ∈ tb := tb_k2 (List.mem_of_getElem? (i := 164) rfl) rfl
theorem wd289 : Cond.fieldLink RX0 9 "ChainIndex$Braid" "ends" "[I" ∈ tb := tb_k1 (List.mem_of_getElem? (i := 183) rfl) rfl
theorem wd296 : Cond.fieldLink RX0 15 "ChainIndex$Braid" "strands" "I" ∈ tb := tb_k1 (List.mem_of_getElem? (i := 190) rfl) rfl
theorem wd294 : Cond.fieldLink RX0 39 "ChainIndex$Braid" "name" "J" ∈ tb := tb_k1 (List.mem_of_getElem? (i := 188) rfl) rfl
theorem wd301 : Cond.fieldLink RX0 43 "ChainIndex$Braid" "made" "I" ∈ tb := tb_k1 (List.mem_of_getElem? (i := 195) rfl) rfl
theorem wd431 : Cond.fieldLink RX1 9 "ChainIndex$Chains" "weights" "[I" ∈ tb := tb_k2 (List.mem_of_getElem? (i := 85) rfl) rfl
theorem wd434 : Cond.fieldLink RX1 15 "ChainIndex$Chains" "behind" "[I" ∈ tb := tb_k2 (List.mem_of_getElem? (i := 88) rfl) rfl
theorem wd435 : Cond.fieldLink RX1 18 "ChainIndex$Chains" "upTo" "[I" ∈ tb := tb_k2 (List.mem_of_getElem? (i := 89) rfl) rfl
theorem wd436 : Cond.fieldLink RX1 21 "ChainIndex$Chains" "onWays" "[I" ∈ tb := tb_k2 (List.mem_of_getElem? (i := 90) rfl) rfl
theorem wd268 : Cond.fieldLink RX1 24 "ChainIndex$Row" "many" "I" ∈ tb := tb_k1 (List.mem_of_getElem? (i := 162) rfl) rfl
theorem wd438 : Cond.fieldLink RX1 36 "ChainIndex$Chains" "many" "I" ∈ tb := tb_k2 (List.mem_of_getElem? (i := 92) rfl) rfl
theorem wd264 : Cond.fieldLink RX1 37 "ChainIndex$Row" "kind" "I" ∈ tb := tb_k1 (List.mem_of_getElem? (i := 158) rfl) rfl
theorem wd441 : Cond.fieldLink RX1 40 "ChainIndex$Chains" "kind" "I" ∈ tb := tb_k2 (List.mem_of_getElem? (i := 95) rfl) rfl
theorem wd258 : Cond.fieldLink RX1 41 "ChainIndex$Row" "numbers" "[I" ∈ tb := tb_k1 (List.mem_of_getElem? (i := 152) rfl) rfl
theorem wd442 : Cond.fieldLink RX1 54 "ChainIndex$Chains" "start" "I" ∈ tb := tb_k2 (List.mem_of_getElem? (i := 96) rfl) rfl
theorem wd443 : Cond.fieldLink RX1 57 "ChainIndex$Chains" "end" "I" ∈ tb := tb_k2 (List.mem_of_getElem? (i := 97) rfl) rfl
theorem wd439 : Cond.fieldLink RX1 72 "ChainIndex$Chains" "longest" "I" ∈ tb := tb_k2 (List.mem_of_getElem? (i := 93) rfl) rfl
theorem wd507 : Cond.fieldLink RX2 12 "ChainIndex$Composer" "result" "LChainIndex$Braid;" ∈ tb := tb_k2 (List.mem_of_getElem? (i := 161) rfl) rfl
theorem wd509 : Cond.fieldLink RX2 18 "ChainIndex$Composer" "power" "LChainIndex$Braid;" ∈ tb := tb_k2 (List.mem_of_getElem? (i := 163) rfl) rfl
theorem wd511 : Cond.fieldLink RX2 23 "ChainIndex$Composer" "firsts" "[[I" ∈ tb := tb_k2 (List.mem_of_getElem? (i := 165) rfl) rfl
theorem wd512 : Cond.fieldLink RX2 26 "ChainIndex$Composer" "seconds" "[[I" ∈ tb := tb_k2 (List.mem_of_getElem? (i := 166) rfl) rfl
theorem wd513 : Cond.fieldLink RX2 29 "ChainIndex$Composer" "leasts" "[[I" ∈ tb := tb_k2 (List.mem_of_getElem? (i := 167) rfl) rfl
theorem wd514 : Cond.fieldLink RX2 32 "ChainIndex$Composer" "order" "[I" ∈ tb := tb_k2 (List.mem_of_getElem? (i := 168) rfl) rfl
theorem wd295 : Cond.fieldLink RX2 36 "ChainIndex$Braid" "strands" "I" ∈ tb := tb_k1 (List.mem_of_getElem? (i := 189) rfl) rfl
theorem wd290 : Cond.fieldLink RX2 40 "ChainIndex$Braid" "ends" "[I" ∈ tb := tb_k1 (List.mem_of_getElem? (i := 184) rfl) rfl
theorem wd369 : Cond.fieldLink RX3 15 "ChainIndex$Deeds" "verbs" "[I" ∈ tb := tb_k2 (List.mem_of_getElem? (i := 23) rfl) rfl
theorem wd370 : Cond.fieldLink RX3 21 "ChainIndex$Deeds" "whiches" "[I" ∈ tb := tb_k2 (List.mem_of_getElem? (i := 24) rfl) rfl
theorem wd371 : Cond.fieldLink RX3 24 "ChainIndex$Deeds" "values" "[I" ∈ tb := tb_k2 (List.mem_of_getElem? (i := 25) rfl) rfl
theorem wd372 : Cond.fieldLink RX3 27 "ChainIndex$Deeds" "size" "I" ∈ tb := tb_k2 (List.mem_of_getElem? (i := 26) rfl) rfl
theorem wd349 : Cond.fieldLink RX4 9 "ChainIndex$Law" "codes" "[I" ∈ tb := tb_k2 (List.mem_of_getElem? (i := 3) rfl) rfl
theorem wd350 : Cond.fieldLink RX4 15 "ChainIndex$Law" "stack" "[I" ∈ tb := tb_k2 (List.mem_of_getElem? (i := 4) rfl) rfl
theorem wd351 : Cond.fieldLink RX4 18 "ChainIndex$Law" "length" "I" ∈ tb := tb_k2 (List.mem_of_getElem? (i := 5) rfl) rfl
theorem wd384 : Cond.fieldLink RX5 12 "ChainIndex$Reader" "store" "LChainIndex$Store;" ∈ tb := tb_k2 (List.mem_of_getElem? (i := 38) rfl) rfl
theorem wd386 : Cond.fieldLink RX5 21 "ChainIndex$Reader" "law" "LChainIndex$Law;" ∈ tb := tb_k2 (List.mem_of_getElem? (i := 40) rfl) rfl
theorem wd388 : Cond.fieldLink RX5 30 "ChainIndex$Reader" "work" "LChainIndex$Deeds;" ∈ tb := tb_k2 (List.mem_of_getElem? (i := 42) rfl) rfl
theorem wd390 : Cond.fieldLink RX5 34 "ChainIndex$Reader" "pending" "[I" ∈ tb := tb_k2 (List.mem_of_getElem? (i := 44) rfl) rfl
theorem wd394 : Cond.fieldLink RX5 44 "ChainIndex$Reader" "lawTold" "Z" ∈ tb := tb_k2 (List.mem_of_getElem? (i := 48) rfl) rfl
theorem wd395 : Cond.fieldLink RX5 48 "ChainIndex$Reader" "fault" "I" ∈ tb := tb_k2 (List.mem_of_getElem? (i := 49) rfl) rfl
theorem wd202 : Cond.fieldLink RX5 52 "ChainIndex$Tape" "next" "I" ∈ tb := tb_k1 (List.mem_of_getElem? (i := 96) rfl) rfl
theorem wd204 : Cond.fieldLink RX5 60 "ChainIndex$Tape" "type" "I" ∈ tb := tb_k1 (List.mem_of_getElem? (i := 98) rfl) rfl
theorem wd373 : Cond.fieldLink RX5 67 "ChainIndex$Deeds" "size" "I" ∈ tb := tb_k2 (List.mem_of_getElem? (i := 27) rfl) rfl
theorem wd206 : Cond.fieldLink RX5 74 "ChainIndex$Tape" "place" "I" ∈ tb := tb_k1 (List.mem_of_getElem? (i := 100) rfl) rfl
theorem wd211 : Cond.fieldLink RX5 77 "ChainIndex$Tape" "code" "I" ∈ tb := tb_k1 (List.mem_of_getElem? (i := 105) rfl) rfl
theorem wd213 : Cond.fieldLink RX5 97 "ChainIndex$Tape" "word" "J" ∈ tb := tb_k1 (List.mem_of_getElem? (i := 107) rfl) rfl
theorem wd319 : Cond.fieldLink RX5 108 "ChainIndex$Store" "rowCount" "I" ∈ tb := tb_k1 (List.mem_of_getElem? (i := 213) rfl) rfl
theorem wd312 : Cond.fieldLink RX5 114 "ChainIndex$Store" "rows" "[LChainIndex$Row;" ∈ tb := tb_k1 (List.mem_of_getElem? (i := 206) rfl) rfl
theorem wd263 : Cond.fieldLink RX5 118 "ChainIndex$Row" "name" "J" ∈ tb := tb_k1 (List.mem_of_getElem? (i := 157) rfl) rfl
theorem wd271 : Cond.fieldLink RX5 123 "ChainIndex$Row" "many" "I" ∈ tb := tb_k1 (List.mem_of_getElem? (i := 165) rfl) rfl
theorem wd267 : Cond.fieldLink RX5 126 "ChainIndex$Row" "kind" "I" ∈ tb := tb_k1 (List.mem_of_getElem? (i := 161) rfl) rfl
theorem wd209 : Cond.fieldLink RX5 129 "ChainIndex$Tape" "number" "I" ∈ tb := tb_k1 (List.mem_of_getElem? (i := 103) rfl) rfl
theorem wd323 : Cond.fieldLink RX5 136 "ChainIndex$Store" "braidCount" "I" ∈ tb := tb_k1 (List.mem_of_getElem? (i := 217) rfl) rfl
theorem wd314 : Cond.fieldLink RX5 139 "ChainIndex$Store" "braids" "[LChainIndex$Braid;" ∈ tb := tb_k1 (List.mem_of_getElem? (i := 208) rfl) rfl
theorem wd293 : Cond.fieldLink RX5 143 "ChainIndex$Braid" "name" "J" ∈ tb := tb_k1 (List.mem_of_getElem? (i := 187) rfl) rfl
theorem wd300 : Cond.fieldLink RX5 146 "ChainIndex$Braid" "made" "I" ∈ tb := tb_k1 (List.mem_of_getElem? (i := 194) rfl) rfl
theorem wd298 : Cond.fieldLink RX5 149 "ChainIndex$Braid" "strands" "I" ∈ tb := tb_k1 (List.mem_of_getElem? (i := 192) rfl) rfl
theorem wd396 : Cond.fieldLink RX5 166 "ChainIndex$Reader" "found" "I" ∈ tb := tb_k2 (List.mem_of_getElem? (i := 50) rfl) rfl
theorem wd352 : Cond.fieldLink RX5 175 "ChainIndex$Law" "length" "I" ∈ tb := tb_k2 (List.mem_of_getElem? (i := 6) rfl) rfl
theorem wd391 : Cond.fieldLink RX5 178 "ChainIndex$Reader" "pendingCount" "I" ∈ tb := tb_k2 (List.mem_of_getElem? (i := 45) rfl) rfl
theorem wd392 : Cond.fieldLink RX5 181 "ChainIndex$Reader" "depth" "I" ∈ tb := tb_k2 (List.mem_of_getElem? (i := 46) rfl) rfl
theorem wd393 : Cond.fieldLink RX5 184 "ChainIndex$Reader" "partDue" "Z" ∈ tb := tb_k2 (List.mem_of_getElem? (i := 47) rfl) rfl
theorem wd257 : Cond.fieldLink RX6 9 "ChainIndex$Row" "numbers" "[I" ∈ tb := tb_k1 (List.mem_of_getElem? (i := 151) rfl) rfl
theorem wd269 : Cond.fieldLink RX6 15 "ChainIndex$Row" "many" "I" ∈ tb := tb_k1 (List.mem_of_getElem? (i := 163) rfl) rfl
theorem wd261 : Cond.fieldLink RX6 25 "ChainIndex$Row" "name" "J" ∈ tb := tb_k1 (List.mem_of_getElem? (i := 155) rfl) rfl
theorem wd266 : Cond.fieldLink RX6 29 "ChainIndex$Row" "kind" "I" ∈ tb := tb_k1 (List.mem_of_getElem? (i := 160) rfl) rfl
theorem wd311 : Cond.fieldLink RX7 11 "ChainIndex$Store" "rows" "[LChainIndex$Row;" ∈ tb := tb_k1 (List.mem_of_getElem? (i := 205) rfl) rfl
theorem wd313 : Cond.fieldLink RX7 19 "ChainIndex$Store" "braids" "[LChainIndex$Braid;" ∈ tb := tb_k1 (List.mem_of_getElem? (i := 207) rfl) rfl
theorem wd315 : Cond.fieldLink RX7 23 "ChainIndex$Store" "seenRows" "[I" ∈ tb := tb_k1 (List.mem_of_getElem? (i := 209) rfl) rfl
theorem wd316 : Cond.fieldLink RX7 27 "ChainIndex$Store" "seenLengths" "[I" ∈ tb := tb_k1 (List.mem_of_getElem? (i := 210) rfl) rfl
theorem wd317 : Cond.fieldLink RX7 30 "ChainIndex$Store" "seenMore" "[Z" ∈ tb := tb_k1 (List.mem_of_getElem? (i := 211) rfl) rfl
theorem wd318 : Cond.fieldLink RX7 36 "ChainIndex$Store" "rowCount" "I" ∈ tb := tb_k1 (List.mem_of_getElem? (i := 212) rfl) rfl
theorem wd321 : Cond.fieldLink RX7 40 "ChainIndex$Store" "braidCount" "I" ∈ tb := tb_k1 (List.mem_of_getElem? (i := 215) rfl) rfl
theorem wd324 : Cond.fieldLink RX7 43 "ChainIndex$Store" "seenCount" "I" ∈ tb := tb_k1 (List.mem_of_getElem? (i := 218) rfl) rfl
theorem wd262 : Cond.fieldLink RX7 53 "ChainIndex$Row" "name" "J" ∈ tb := tb_k1 (List.mem_of_getElem? (i := 156) rfl) rfl
theorem wd292 : Cond.fieldLink RX7 57 "ChainIndex$Braid" "name" "J" ∈ tb := tb_k1 (List.mem_of_getElem? (i := 186) rfl) rfl
theorem wd272 : Cond.fieldLink RX7 58 "ChainIndex$Row" "many" "I" ∈ tb := tb_k1 (List.mem_of_getElem? (i := 166) rfl) rfl
theorem wd260 : Cond.fieldLink RX7 69 "ChainIndex$Row" "numbers" "[I" ∈ tb := tb_k1 (List.mem_of_getElem? (i := 154) rfl) rfl
theorem wd488 : Cond.fieldLink RX8 11 "ChainIndex$Tableau" "cells" "[[I" ∈ tb := tb_k2 (List.mem_of_getElem? (i := 142) rfl) rfl
theorem wd489 : Cond.fieldLink RX8 16 "ChainIndex$Tableau" "sizes" "[I" ∈ tb := tb_k2 (List.mem_of_getElem? (i := 143) rfl) rfl
theorem wd490 : Cond.fieldLink RX8 20 "ChainIndex$Tableau" "tops" "[I" ∈ tb := tb_k2 (List.mem_of_getElem? (i := 144) rfl) rfl
theorem wd432 : Cond.fieldLink RX8 23 "ChainIndex$Chains" "weights" "[I" ∈ tb := tb_k2 (List.mem_of_getElem? (i := 86) rfl) rfl
theorem wd198 : Cond.fieldLink RX9 9 "ChainIndex$Tape" "signs" "[C" ∈ tb := tb_k1 (List.mem_of_getElem? (i := 92) rfl) rfl
theorem wd199 : Cond.fieldLink RX9 15 "ChainIndex$Tape" "keywords" "[J" ∈ tb := tb_k1 (List.mem_of_getElem? (i := 93) rfl) rfl
theorem wd201 : Cond.fieldLink RX9 35 "ChainIndex$Tape" "length" "I" ∈ tb := tb_k1 (List.mem_of_getElem? (i := 95) rfl) rfl
theorem wd203 : Cond.fieldLink RX9 38 "ChainIndex$Tape" "next" "I" ∈ tb := tb_k1 (List.mem_of_getElem? (i := 97) rfl) rfl
theorem wd207 : Cond.fieldLink RX9 41 "ChainIndex$Tape" "place" "I" ∈ tb := tb_k1 (List.mem_of_getElem? (i := 101) rfl) rfl
theorem wd208 : Cond.fieldLink RX9 44 "ChainIndex$Tape" "number" "I" ∈ tb := tb_k1 (List.mem_of_getElem? (i := 102) rfl) rfl
theorem wd210 : Cond.fieldLink RX9 47 "ChainIndex$Tape" "code" "I" ∈ tb := tb_k1 (List.mem_of_getElem? (i := 104) rfl) rfl
theorem wd212 : Cond.fieldLink RX9 50 "ChainIndex$Tape" "word" "J" ∈ tb := tb_k1 (List.mem_of_getElem? (i := 106) rfl) rfl
theorem wd205 : Cond.fieldLink RX9 54 "ChainIndex$Tape" "type" "I" ∈ tb := tb_k1 (List.mem_of_getElem? (i := 99) rfl) rfl
theorem wd471 : Cond.fieldLink RX10 11 "ChainIndex$Windows" "lengths" "[[I" ∈ tb := tb_k2 (List.mem_of_getElem? (i := 125) rfl) rfl
theorem wd472 : Cond.fieldLink RX10 16 "ChainIndex$Windows" "shared" "[I" ∈ tb := tb_k2 (List.mem_of_getElem? (i := 126) rfl) rfl
theorem wd437 : Cond.fieldLink RX10 20 "ChainIndex$Chains" "many" "I" ∈ tb := tb_k2 (List.mem_of_getElem? (i := 91) rfl) rfl
theorem wd473 : Cond.fieldLink RX10 26 "ChainIndex$Windows" "many" "I" ∈ tb := tb_k2 (List.mem_of_getElem? (i := 127) rfl) rfl
theorem wd433 : Cond.fieldLink RX10 35 "ChainIndex$Chains" "weights" "[I" ∈ tb := tb_k2 (List.mem_of_getElem? (i := 87) rfl) rfl
theorem wd1426 : Cond.fieldLink RX12 1 "ChainIndexModel" "thrown" "I" ∈ tb := tb_k6 (List.mem_of_getElem? (i := 120) rfl) rfl
theorem wd1428 : Cond.fieldLink RX12 11 "ChainIndexModel" "taped" "I" ∈ tb := tb_k6 (List.mem_of_getElem? (i := 122) rfl) rfl
theorem wd1427 : Cond.fieldLink RX12 14 "ChainIndexModel" "tape" "[I" ∈ tb := tb_k6 (List.mem_of_getElem? (i := 121) rfl) rfl
theorem wd1430 : Cond.fieldLink RX12 24 "ChainIndexModel" "sort" "[I" ∈ tb := tb_k6 (List.mem_of_getElem? (i := 124) rfl) rfl
theorem wd1431 : Cond.fieldLink RX12 27 "ChainIndexModel" "place" "[I" ∈ tb := tb_k6 (List.mem_of_getElem? (i := 125) rfl) rfl
theorem wd1432 : Cond.fieldLink RX12 30 "ChainIndexModel" "value" "[J" ∈ tb := tb_k6 (List.mem_of_getElem? (i := 126) rfl) rfl
theorem wd1435 : Cond.fieldLink RX12 72 "ChainIndexModel" "words" "[J" ∈ tb := tb_k6 (List.mem_of_getElem? (i := 129) rfl) rfl
theorem wd1436 : Cond.fieldLink RX12 75 "ChainIndexModel" "indices" "[I" ∈ tb := tb_k6 (List.mem_of_getElem? (i := 130) rfl) rfl
theorem wd1437 : Cond.fieldLink RX12 78 "ChainIndexModel" "code" "[I" ∈ tb := tb_k6 (List.mem_of_getElem? (i := 131) rfl) rfl
theorem wd1439 : Cond.fieldLink RX12 81 "ChainIndexModel" "names" "[J" ∈ tb := tb_k6 (List.mem_of_getElem? (i := 133) rfl) rfl
theorem wd1440 : Cond.fieldLink RX12 84 "ChainIndexModel" "lines" "[I" ∈ tb := tb_k6 (List.mem_of_getElem? (i := 134) rfl) rfl
theorem wd1441 : Cond.fieldLink RX12 87 "ChainIndexModel" "facts" "[I" ∈ tb := tb_k6 (List.mem_of_getElem? (i := 135) rfl) rfl
theorem wd1442 : Cond.fieldLink RX12 90 "ChainIndexModel" "pile" "[I" ∈ tb := tb_k6 (List.mem_of_getElem? (i := 136) rfl) rfl
theorem wd1443 : Cond.fieldLink RX12 93 "ChainIndexModel" "state" "[I" ∈ tb := tb_k6 (List.mem_of_getElem? (i := 137) rfl) rfl
theorem wd1446 : Cond.fieldLink RX12 96 "ChainIndexModel" "isMarked" "[Z" ∈ tb := tb_k6 (List.mem_of_getElem? (i := 140) rfl) rfl
theorem wd1447 : Cond.fieldLink RX12 100 "ChainIndexModel" "weights" "[I" ∈ tb := tb_k6 (List.mem_of_getElem? (i := 141) rfl) rfl
theorem wd1450 : Cond.fieldLink RX12 103 "ChainIndexModel" "longs" "[I" ∈ tb := tb_k6 (List.mem_of_getElem? (i := 144) rfl) rfl
theorem wd1451 : Cond.fieldLink RX12 106 "ChainIndexModel" "ending" "[I" ∈ tb := tb_k6 (List.mem_of_getElem? (i := 145) rfl) rfl
theorem wd1452 : Cond.fieldLink RX12 109 "ChainIndexModel" "starting" "[I" ∈ tb := tb_k6 (List.mem_of_getElem? (i := 146) rfl) rfl
theorem wd1453 : Cond.fieldLink RX12 112 "ChainIndexModel" "waysTo" "[J" ∈ tb := tb_k6 (List.mem_of_getElem? (i := 147) rfl) rfl
theorem wd1454 : Cond.fieldLink RX12 115 "ChainIndexModel" "tops" "[I" ∈ tb := tb_k6 (List.mem_of_getElem? (i := 148) rfl) rfl
theorem wd1455 : Cond.fieldLink RX12 118 "ChainIndexModel" "pileOf" "[I" ∈ tb := tb_k6 (List.mem_of_getElem? (i := 149) rfl) rfl
theorem wd1456 : Cond.fieldLink RX12 121 "ChainIndexModel" "tableau" "[I" ∈ tb := tb_k6 (List.mem_of_getElem? (i := 150) rfl) rfl
theorem wd1457 : Cond.fieldLink RX12 124 "ChainIndexModel" "wide" "[I" ∈ tb := tb_k6 (List.mem_of_getElem? (i := 151) rfl) rfl
theorem wd1458 : Cond.fieldLink RX12 127 "ChainIndexModel" "firsts" "[I" ∈ tb := tb_k6 (List.mem_of_getElem? (i := 152) rfl) rfl
theorem wd1459 : Cond.fieldLink RX12 130 "ChainIndexModel" "steps" "[I" ∈ tb := tb_k6 (List.mem_of_getElem? (i := 153) rfl) rfl
theorem wd1460 : Cond.fieldLink RX12 133 "ChainIndexModel" "one" "[I" ∈ tb := tb_k6 (List.mem_of_getElem? (i := 154) rfl) rfl
theorem wd1461 : Cond.fieldLink RX12 136 "ChainIndexModel" "other" "[I" ∈ tb := tb_k6 (List.mem_of_getElem? (i := 155) rfl) rfl
theorem wd1462 : Cond.fieldLink RX12 139 "ChainIndexModel" "composed" "[I" ∈ tb := tb_k6 (List.mem_of_getElem? (i := 156) rfl) rfl
theorem wd1463 : Cond.fieldLink RX12 142 "ChainIndexModel" "countsOne" "[I" ∈ tb := tb_k6 (List.mem_of_getElem? (i := 157) rfl) rfl
theorem wd1464 : Cond.fieldLink RX12 145 "ChainIndexModel" "countsOther" "[I" ∈ tb := tb_k6 (List.mem_of_getElem? (i := 158) rfl) rfl
theorem wd1465 : Cond.fieldLink RX12 148 "ChainIndexModel" "countsBoth" "[I" ∈ tb := tb_k6 (List.mem_of_getElem? (i := 159) rfl) rfl
theorem wd1466 : Cond.fieldLink RX12 151 "ChainIndexModel" "tally" "[I" ∈ tb := tb_k6 (List.mem_of_getElem? (i := 160) rfl) rfl
theorem wd1429 : Cond.fieldLink RX12 165 "ChainIndexModel" "size" "I" ∈ tb := tb_k6 (List.mem_of_getElem? (i := 123) rfl) rfl
theorem wd1433 : Cond.fieldLink RX12 184 "ChainIndexModel" "at" "I" ∈ tb := tb_k6 (List.mem_of_getElem? (i := 127) rfl) rfl
theorem wd1434 : Cond.fieldLink RX12 187 "ChainIndexModel" "fault" "I" ∈ tb := tb_k6 (List.mem_of_getElem? (i := 128) rfl) rfl
theorem wd1438 : Cond.fieldLink RX12 216 "ChainIndexModel" "codes" "I" ∈ tb := tb_k6 (List.mem_of_getElem? (i := 132) rfl) rfl
theorem wd1445 : Cond.fieldLink RX12 279 "ChainIndexModel" "made" "I" ∈ tb := tb_k6 (List.mem_of_getElem? (i := 139) rfl) rfl
theorem wd1444 : Cond.fieldLink RX12 282 "ChainIndexModel" "undos" "I" ∈ tb := tb_k6 (List.mem_of_getElem? (i := 138) rfl) rfl
theorem wd1448 : Cond.fieldLink RX12 301 "ChainIndexModel" "kind" "I" ∈ tb := tb_k6 (List.mem_of_getElem? (i := 142) rfl) rfl
theorem wd1449 : Cond.fieldLink RX12 304 "ChainIndexModel" "extent" "I" ∈ tb := tb_k6 (List.mem_of_getElem? (i := 143) rfl) rfl
theorem wd1467 : Cond.fieldLink RX12 426 "ChainIndexModel" "g" "J" ∈ tb := tb_k6 (List.mem_of_getElem? (i := 161) rfl) rfl
def nests : List (String × Nat × MethodName × String) := [(RX11, 18, yX5_init, "ChainIndex"), (RX11, 65, yX1_init, "ChainIndex"), (RX11, 75, yX10_init, "ChainIndex"), (RX11, 82, yX8_init, "ChainIndex"), (RX11, 89, yX2_init, "ChainIndex"), (RX11, 96, yX6_init, "ChainIndex"), (RX2, 11, yX0_init, "ChainIndex"), (RX7, 34, yX6_init, "ChainIndex"), (RX7, 35, yX0_init, "ChainIndex"), (RX7, 85, yX11_areAlike, "ChainIndex")]
theorem nests_in : ∀ q ∈ nests, Cond.methodLinkNest q.1 q.2.1 q.2.2.1 q.2.2.2 ∈ lw_tbl := by decide +kernel
theorem wd136 : Cond.methodLink RX11 1 objectInit ∈ tb := tb_k1 (List.mem_of_getElem? (i := 30) rfl) rfl
theorem wd141 : Cond.methodLink RX11 9 yX9_init ∈ tb := tb_k1 (List.mem_of_getElem? (i := 35) rfl) rfl
theorem wd142 : Cond.instanceMethod yX9_init ∈ tb := tb_k1 (List.mem_of_getElem? (i := 36) rfl) rfl
theorem wd239 : Cond.instanceMethod yX5_init ∈ tb := tb_k1 (List.mem_of_getElem? (i := 133) rfl) rfl
theorem wd419 : Cond.methodLink RX11 25 yX7_init ∈ tb := tb_k2 (List.mem_of_getElem? (i := 73) rfl) rfl
theorem wd245 : Cond.instanceMethod yX7_init ∈ tb := tb_k1 (List.mem_of_getElem? (i := 139) rfl) rfl
theorem wd422 : Cond.methodLink RX11 46 yX4_init ∈ tb := tb_k2 (List.mem_of_getElem? (i := 76) rfl) rfl
theorem wd346 : Cond.instanceMethod yX4_init ∈ tb := tb_k2 (List.mem_of_getElem? (i := 0) rfl) rfl
theorem wd424 : Cond.methodLink RX11 53 yX3_init ∈ tb := tb_k2 (List.mem_of_getElem? (i := 78) rfl) rfl
theorem wd363 : Cond.instanceMethod yX3_init ∈ tb := tb_k2 (List.mem_of_getElem? (i := 17) rfl) rfl
theorem wd428 : Cond.instanceMethod yX1_init ∈ tb := tb_k2 (List.mem_of_getElem? (i := 82) rfl) rfl
theorem wd466 : Cond.instanceMethod yX10_init ∈ tb := tb_k2 (List.mem_of_getElem? (i := 120) rfl) rfl
theorem wd484 : Cond.instanceMethod yX8_init ∈ tb := tb_k2 (List.mem_of_getElem? (i := 138) rfl) rfl
theorem wd501 : Cond.instanceMethod yX2_init ∈ tb := tb_k2 (List.mem_of_getElem? (i := 155) rfl) rfl
theorem wd254 : Cond.instanceMethod yX6_init ∈ tb := tb_k1 (List.mem_of_getElem? (i := 148) rfl) rfl
theorem wd589 : Cond.methodLink RX11 105 yX9_put ∈ tb := tb_k3 (List.mem_of_getElem? (i := 3) rfl) rfl
theorem wd590 : Cond.instanceMethod yX9_put ∈ tb := tb_k3 (List.mem_of_getElem? (i := 4) rfl) rfl
theorem wd591 : Cond.selects RX9 yX9_put yX9_put ∈ tb := tb_k3 (List.mem_of_getElem? (i := 5) rfl) rfl
theorem wd597 : Cond.methodLink RX11 113 yX5_readIndex ∈ tb := tb_k3 (List.mem_of_getElem? (i := 11) rfl) rfl
theorem wd598 : Cond.instanceMethod yX5_readIndex ∈ tb := tb_k3 (List.mem_of_getElem? (i := 12) rfl) rfl
theorem wd599 : Cond.selects RX5 yX5_readIndex yX5_readIndex ∈ tb := tb_k3 (List.mem_of_getElem? (i := 13) rfl) rfl
theorem wd773 : Cond.methodLink RX11 117 yX9_wipe ∈ tb := tb_k3 (List.mem_of_getElem? (i := 187) rfl) rfl
theorem wd774 : Cond.instanceMethod yX9_wipe ∈ tb := tb_k3 (List.mem_of_getElem? (i := 188) rfl) rfl
theorem wd775 : Cond.selects RX9 yX9_wipe yX9_wipe ∈ tb := tb_k3 (List.mem_of_getElem? (i := 189) rfl) rfl
theorem wd777 : Cond.methodLink RX11 123 yX7_copyFrom ∈ tb := tb_k3 (List.mem_of_getElem? (i := 191) rfl) rfl
theorem wd778 : Cond.instanceMethod yX7_copyFrom ∈ tb := tb_k3 (List.mem_of_getElem? (i := 192) rfl) rfl
theorem wd779 : Cond.selects RX7 yX7_copyFrom yX7_copyFrom ∈ tb := tb_k3 (List.mem_of_getElem? (i := 193) rfl) rfl
theorem wd793 : Cond.methodLink RX11 128 yX4_copyFrom ∈ tb := tb_k3 (List.mem_of_getElem? (i := 207) rfl) rfl
theorem wd794 : Cond.instanceMethod yX4_copyFrom ∈ tb := tb_k3 (List.mem_of_getElem? (i := 208) rfl) rfl
theorem wd795 : Cond.selects RX4 yX4_copyFrom yX4_copyFrom ∈ tb := tb_k3 (List.mem_of_getElem? (i := 209) rfl) rfl
theorem wd802 : Cond.methodLink RX11 140 yX5_readWork ∈ tb := tb_k3 (List.mem_of_getElem? (i := 216) rfl) rfl
theorem wd803 : Cond.instanceMethod yX5_readWork ∈ tb := tb_k3 (List.mem_of_getElem? (i := 217) rfl) rfl
theorem wd804 : Cond.selects RX5 yX5_readWork yX5_readWork ∈ tb := tb_k3 (List.mem_of_getElem? (i := 218) rfl) rfl
theorem wd826 : Cond.methodLink RX11 147 yX3_copyFrom ∈ tb := tb_k4 (List.mem_of_getElem? (i := 0) rfl) rfl
theorem wd827 : Cond.instanceMethod yX3_copyFrom ∈ tb := tb_k4 (List.mem_of_getElem? (i := 1) rfl) rfl
theorem wd828 : Cond.selects RX3 yX3_copyFrom yX3_copyFrom ∈ tb := tb_k4 (List.mem_of_getElem? (i := 2) rfl) rfl
theorem wd851 : Cond.methodLink RX11 150 yX7_rowAt ∈ tb := tb_k4 (List.mem_of_getElem? (i := 25) rfl) rfl
theorem wd852 : Cond.instanceMethod yX7_rowAt ∈ tb := tb_k4 (List.mem_of_getElem? (i := 26) rfl) rfl
theorem wd853 : Cond.selects RX7 yX7_rowAt yX7_rowAt ∈ tb := tb_k4 (List.mem_of_getElem? (i := 27) rfl) rfl
theorem wd859 : Cond.methodLink RX11 160 yX6_hasPlace ∈ tb := tb_k4 (List.mem_of_getElem? (i := 33) rfl) rfl
theorem wd860 : Cond.instanceMethod yX6_hasPlace ∈ tb := tb_k4 (List.mem_of_getElem? (i := 34) rfl) rfl
theorem wd861 : Cond.selects RX6 yX6_hasPlace yX6_hasPlace ∈ tb := tb_k4 (List.mem_of_getElem? (i := 35) rfl) rfl
theorem wd1372 : Cond.methodLink RX11 174 yX4_weigh ∈ tb := tb_k6 (List.mem_of_getElem? (i := 66) rfl) rfl
theorem wd1005 : Cond.instanceMethod yX4_weigh ∈ tb := tb_k4 (List.mem_of_getElem? (i := 179) rfl) rfl
theorem wd1006 : Cond.selects RX4 yX4_weigh yX4_weigh ∈ tb := tb_k4 (List.mem_of_getElem? (i := 180) rfl) rfl
theorem wd867 : Cond.methodLink RX11 178 yX7_braidAt ∈ tb := tb_k4 (List.mem_of_getElem? (i := 41) rfl) rfl
theorem wd868 : Cond.instanceMethod yX7_braidAt ∈ tb := tb_k4 (List.mem_of_getElem? (i := 42) rfl) rfl
theorem wd869 : Cond.selects RX7 yX7_braidAt yX7_braidAt ∈ tb := tb_k4 (List.mem_of_getElem? (i := 43) rfl) rfl
theorem wd871 : Cond.methodLink RX11 187 yX0_crossings ∈ tb := tb_k4 (List.mem_of_getElem? (i := 45) rfl) rfl
theorem wd872 : Cond.instanceMethod yX0_crossings ∈ tb := tb_k4 (List.mem_of_getElem? (i := 46) rfl) rfl
theorem wd873 : Cond.selects RX0 yX0_crossings yX0_crossings ∈ tb := tb_k4 (List.mem_of_getElem? (i := 47) rfl) rfl
theorem wd879 : Cond.methodLink RX11 195 yX7_allNumbers ∈ tb := tb_k4 (List.mem_of_getElem? (i := 53) rfl) rfl
theorem wd880 : Cond.instanceMethod yX7_allNumbers ∈ tb := tb_k4 (List.mem_of_getElem? (i := 54) rfl) rfl
theorem wd881 : Cond.selects RX7 yX7_allNumbers yX7_allNumbers ∈ tb := tb_k4 (List.mem_of_getElem? (i := 55) rfl) rfl
theorem wd887 : Cond.methodLink RX11 201 yX7_grow ∈ tb := tb_k4 (List.mem_of_getElem? (i := 61) rfl) rfl
theorem wd888 : Cond.instanceMethod yX7_grow ∈ tb := tb_k4 (List.mem_of_getElem? (i := 62) rfl) rfl
theorem wd889 : Cond.selects RX7 yX7_grow yX7_grow ∈ tb := tb_k4 (List.mem_of_getElem? (i := 63) rfl) rfl
theorem wd893 : Cond.methodLink RX11 205 yX3_add ∈ tb := tb_k4 (List.mem_of_getElem? (i := 67) rfl) rfl
theorem wd819 : Cond.instanceMethod yX3_add ∈ tb := tb_k3 (List.mem_of_getElem? (i := 233) rfl) rfl
theorem wd820 : Cond.selects RX3 yX3_add yX3_add ∈ tb := tb_k3 (List.mem_of_getElem? (i := 234) rfl) rfl
theorem wd898 : Cond.methodLink RX11 209 yX7_shrink ∈ tb := tb_k4 (List.mem_of_getElem? (i := 72) rfl) rfl
theorem wd899 : Cond.instanceMethod yX7_shrink ∈ tb := tb_k4 (List.mem_of_getElem? (i := 73) rfl) rfl
theorem wd900 : Cond.selects RX7 yX7_shrink yX7_shrink ∈ tb := tb_k4 (List.mem_of_getElem? (i := 74) rfl) rfl
theorem wd906 : Cond.methodLink RX11 213 yX7_reverse ∈ tb := tb_k4 (List.mem_of_getElem? (i := 80) rfl) rfl
theorem wd907 : Cond.instanceMethod yX7_reverse ∈ tb := tb_k4 (List.mem_of_getElem? (i := 81) rfl) rfl
theorem wd908 : Cond.selects RX7 yX7_reverse yX7_reverse ∈ tb := tb_k4 (List.mem_of_getElem? (i := 82) rfl) rfl
theorem wd918 : Cond.methodLink RX11 216 yX7_crossOver ∈ tb := tb_k4 (List.mem_of_getElem? (i := 92) rfl) rfl
theorem wd919 : Cond.instanceMethod yX7_crossOver ∈ tb := tb_k4 (List.mem_of_getElem? (i := 93) rfl) rfl
theorem wd920 : Cond.selects RX7 yX7_crossOver yX7_crossOver ∈ tb := tb_k4 (List.mem_of_getElem? (i := 94) rfl) rfl
theorem wd936 : Cond.methodLink RX11 220 yX7_combine ∈ tb := tb_k4 (List.mem_of_getElem? (i := 110) rfl) rfl
theorem wd937 : Cond.instanceMethod yX7_combine ∈ tb := tb_k4 (List.mem_of_getElem? (i := 111) rfl) rfl
theorem wd938 : Cond.selects RX7 yX7_combine yX7_combine ∈ tb := tb_k4 (List.mem_of_getElem? (i := 112) rfl) rfl
theorem wd963 : Cond.methodLink RX11 224 yX3_whichOf ∈ tb := tb_k4 (List.mem_of_getElem? (i := 137) rfl) rfl
theorem wd839 : Cond.instanceMethod yX3_whichOf ∈ tb := tb_k4 (List.mem_of_getElem? (i := 13) rfl) rfl
theorem wd840 : Cond.selects RX3 yX3_whichOf yX3_whichOf ∈ tb := tb_k4 (List.mem_of_getElem? (i := 14) rfl) rfl
theorem wd964 : Cond.methodLink RX11 227 yX3_valueOf ∈ tb := tb_k4 (List.mem_of_getElem? (i := 138) rfl) rfl
theorem wd843 : Cond.instanceMethod yX3_valueOf ∈ tb := tb_k4 (List.mem_of_getElem? (i := 17) rfl) rfl
theorem wd844 : Cond.selects RX3 yX3_valueOf yX3_valueOf ∈ tb := tb_k4 (List.mem_of_getElem? (i := 18) rfl) rfl
theorem wd965 : Cond.methodLink RX11 230 yX3_verbOf ∈ tb := tb_k4 (List.mem_of_getElem? (i := 139) rfl) rfl
theorem wd831 : Cond.instanceMethod yX3_verbOf ∈ tb := tb_k4 (List.mem_of_getElem? (i := 5) rfl) rfl
theorem wd832 : Cond.selects RX3 yX3_verbOf yX3_verbOf ∈ tb := tb_k4 (List.mem_of_getElem? (i := 6) rfl) rfl
theorem wd966 : Cond.methodLink RX11 233 yX7_crossBack ∈ tb := tb_k4 (List.mem_of_getElem? (i := 140) rfl) rfl
theorem wd967 : Cond.instanceMethod yX7_crossBack ∈ tb := tb_k4 (List.mem_of_getElem? (i := 141) rfl) rfl
theorem wd968 : Cond.selects RX7 yX7_crossBack yX7_crossBack ∈ tb := tb_k4 (List.mem_of_getElem? (i := 142) rfl) rfl
theorem wd971 : Cond.methodLink RX11 237 yX7_dropBraid ∈ tb := tb_k4 (List.mem_of_getElem? (i := 145) rfl) rfl
theorem wd972 : Cond.instanceMethod yX7_dropBraid ∈ tb := tb_k4 (List.mem_of_getElem? (i := 146) rfl) rfl
theorem wd973 : Cond.selects RX7 yX7_dropBraid yX7_dropBraid ∈ tb := tb_k4 (List.mem_of_getElem? (i := 147) rfl) rfl
theorem wd983 : Cond.methodLink RX11 240 yX11_doLine ∈ tb := tb_k4 (List.mem_of_getElem? (i := 157) rfl) rfl
theorem wd985 : Cond.instanceMethod yX11_doLine ∈ tb := tb_k4 (List.mem_of_getElem? (i := 159) rfl) rfl
theorem wd21 : Cond.selects RX11 yX11_doLine yX11_doLine ∈ tb := tb_p2 (List.mem_of_getElem? (i := 5) rfl)
theorem wd991 : Cond.methodLink RX11 244 yX11_loadWindow ∈ tb := tb_k4 (List.mem_of_getElem? (i := 165) rfl) rfl
theorem wd993 : Cond.instanceMethod yX11_loadWindow ∈ tb := tb_k4 (List.mem_of_getElem? (i := 167) rfl) rfl
theorem wd22 : Cond.selects RX11 yX11_loadWindow yX11_loadWindow ∈ tb := tb_p2 (List.mem_of_getElem? (i := 6) rfl)
theorem wd1039 : Cond.methodLink RX11 251 yX1_placeOfFirst ∈ tb := tb_k4 (List.mem_of_getElem? (i := 213) rfl) rfl
theorem wd1040 : Cond.instanceMethod yX1_placeOfFirst ∈ tb := tb_k4 (List.mem_of_getElem? (i := 214) rfl) rfl
theorem wd1041 : Cond.selects RX1 yX1_placeOfFirst yX1_placeOfFirst ∈ tb := tb_k4 (List.mem_of_getElem? (i := 215) rfl) rfl
theorem wd1047 : Cond.methodLink RX11 254 yX1_countWays ∈ tb := tb_k4 (List.mem_of_getElem? (i := 221) rfl) rfl
theorem wd1048 : Cond.instanceMethod yX1_countWays ∈ tb := tb_k4 (List.mem_of_getElem? (i := 222) rfl) rfl
theorem wd1049 : Cond.selects RX1 yX1_countWays yX1_countWays ∈ tb := tb_k4 (List.mem_of_getElem? (i := 223) rfl) rfl
theorem wd1063 : Cond.methodLink RX11 257 yX1_mustBits ∈ tb := tb_k4 (List.mem_of_getElem? (i := 237) rfl) rfl
theorem wd1064 : Cond.instanceMethod yX1_mustBits ∈ tb := tb_k4 (List.mem_of_getElem? (i := 238) rfl) rfl
theorem wd1065 : Cond.selects RX1 yX1_mustBits yX1_mustBits ∈ tb := tb_k4 (List.mem_of_getElem? (i := 239) rfl) rfl
theorem wd1079 : Cond.methodLink RX11 260 yX1_mayBits ∈ tb := tb_k5 (List.mem_of_getElem? (i := 13) rfl) rfl
theorem wd1080 : Cond.instanceMethod yX1_mayBits ∈ tb := tb_k5 (List.mem_of_getElem? (i := 14) rfl) rfl
theorem wd1081 : Cond.selects RX1 yX1_mayBits yX1_mayBits ∈ tb := tb_k5 (List.mem_of_getElem? (i := 15) rfl) rfl
theorem wd995 : Cond.methodLink RX11 263 yX11_isWindow ∈ tb := tb_k4 (List.mem_of_getElem? (i := 169) rfl) rfl
theorem wd997 : Cond.instanceMethod yX11_isWindow ∈ tb := tb_k4 (List.mem_of_getElem? (i := 171) rfl) rfl
theorem wd23 : Cond.selects RX11 yX11_isWindow yX11_isWindow ∈ tb := tb_p2 (List.mem_of_getElem? (i := 7) rfl)
theorem wd999 : Cond.methodLink RX11 267 yX1_load ∈ tb := tb_k4 (List.mem_of_getElem? (i := 173) rfl) rfl
theorem wd1000 : Cond.instanceMethod yX1_load ∈ tb := tb_k4 (List.mem_of_getElem? (i := 174) rfl) rfl
theorem wd1001 : Cond.selects RX1 yX1_load yX1_load ∈ tb := tb_k4 (List.mem_of_getElem? (i := 175) rfl) rfl
theorem wd1091 : Cond.methodLink RX11 271 yX8_pile ∈ tb := tb_k5 (List.mem_of_getElem? (i := 25) rfl) rfl
theorem wd1092 : Cond.instanceMethod yX8_pile ∈ tb := tb_k5 (List.mem_of_getElem? (i := 26) rfl) rfl
theorem wd1093 : Cond.selects RX8 yX8_pile yX8_pile ∈ tb := tb_k5 (List.mem_of_getElem? (i := 27) rfl) rfl
theorem wd1101 : Cond.methodLink RX11 275 yX8_fill ∈ tb := tb_k5 (List.mem_of_getElem? (i := 35) rfl) rfl
theorem wd1102 : Cond.instanceMethod yX8_fill ∈ tb := tb_k5 (List.mem_of_getElem? (i := 36) rfl) rfl
theorem wd1103 : Cond.selects RX8 yX8_fill yX8_fill ∈ tb := tb_k5 (List.mem_of_getElem? (i := 37) rfl) rfl
theorem wd1109 : Cond.methodLink RX11 279 yX8_sizeOf ∈ tb := tb_k5 (List.mem_of_getElem? (i := 43) rfl) rfl
theorem wd1110 : Cond.instanceMethod yX8_sizeOf ∈ tb := tb_k5 (List.mem_of_getElem? (i := 44) rfl) rfl
theorem wd1111 : Cond.selects RX8 yX8_sizeOf yX8_sizeOf ∈ tb := tb_k5 (List.mem_of_getElem? (i := 45) rfl) rfl
theorem wd1014 : Cond.methodLink RX11 282 yX1_measure ∈ tb := tb_k4 (List.mem_of_getElem? (i := 188) rfl) rfl
theorem wd1015 : Cond.instanceMethod yX1_measure ∈ tb := tb_k4 (List.mem_of_getElem? (i := 189) rfl) rfl
theorem wd1016 : Cond.selects RX1 yX1_measure yX1_measure ∈ tb := tb_k4 (List.mem_of_getElem? (i := 190) rfl) rfl
theorem wd1117 : Cond.methodLink RX11 285 yX11_fillWindows ∈ tb := tb_k5 (List.mem_of_getElem? (i := 51) rfl) rfl
theorem wd1119 : Cond.instanceMethod yX11_fillWindows ∈ tb := tb_k5 (List.mem_of_getElem? (i := 53) rfl) rfl
theorem wd31 : Cond.selects RX11 yX11_fillWindows yX11_fillWindows ∈ tb := tb_p2 (List.mem_of_getElem? (i := 15) rfl)
theorem wd1129 : Cond.methodLink RX11 289 yX10_strandFrom ∈ tb := tb_k5 (List.mem_of_getElem? (i := 63) rfl) rfl
theorem wd1130 : Cond.instanceMethod yX10_strandFrom ∈ tb := tb_k5 (List.mem_of_getElem? (i := 64) rfl) rfl
theorem wd1131 : Cond.selects RX10 yX10_strandFrom yX10_strandFrom ∈ tb := tb_k5 (List.mem_of_getElem? (i := 65) rfl) rfl
theorem wd1145 : Cond.methodLink RX11 292 yX10_strandsWithin ∈ tb := tb_k5 (List.mem_of_getElem? (i := 79) rfl) rfl
theorem wd1146 : Cond.instanceMethod yX10_strandsWithin ∈ tb := tb_k5 (List.mem_of_getElem? (i := 80) rfl) rfl
theorem wd1147 : Cond.selects RX10 yX10_strandsWithin yX10_strandsWithin ∈ tb := tb_k5 (List.mem_of_getElem? (i := 81) rfl) rfl
theorem wd1154 : Cond.methodLink RX11 295 yX10_having ∈ tb := tb_k5 (List.mem_of_getElem? (i := 88) rfl) rfl
theorem wd1155 : Cond.instanceMethod yX10_having ∈ tb := tb_k5 (List.mem_of_getElem? (i := 89) rfl) rfl
theorem wd1156 : Cond.selects RX10 yX10_having yX10_having ∈ tb := tb_k5 (List.mem_of_getElem? (i := 90) rfl) rfl
theorem wd1162 : Cond.methodLink RX11 298 yX10_bestFrom ∈ tb := tb_k5 (List.mem_of_getElem? (i := 96) rfl) rfl
theorem wd1163 : Cond.instanceMethod yX10_bestFrom ∈ tb := tb_k5 (List.mem_of_getElem? (i := 97) rfl) rfl
theorem wd1164 : Cond.selects RX10 yX10_bestFrom yX10_bestFrom ∈ tb := tb_k5 (List.mem_of_getElem? (i := 98) rfl) rfl
theorem wd1170 : Cond.methodLink RX11 301 yX10_narrowest ∈ tb := tb_k5 (List.mem_of_getElem? (i := 104) rfl) rfl
theorem wd1171 : Cond.instanceMethod yX10_narrowest ∈ tb := tb_k5 (List.mem_of_getElem? (i := 105) rfl) rfl
theorem wd1172 : Cond.selects RX10 yX10_narrowest yX10_narrowest ∈ tb := tb_k5 (List.mem_of_getElem? (i := 106) rfl) rfl
theorem wd1121 : Cond.methodLink RX11 304 yX10_fillChains ∈ tb := tb_k5 (List.mem_of_getElem? (i := 55) rfl) rfl
theorem wd1122 : Cond.instanceMethod yX10_fillChains ∈ tb := tb_k5 (List.mem_of_getElem? (i := 56) rfl) rfl
theorem wd1123 : Cond.selects RX10 yX10_fillChains yX10_fillChains ∈ tb := tb_k5 (List.mem_of_getElem? (i := 57) rfl) rfl
theorem wd1178 : Cond.methodLink RX11 308 yX11_fillCommon ∈ tb := tb_k5 (List.mem_of_getElem? (i := 112) rfl) rfl
theorem wd1180 : Cond.instanceMethod yX11_fillCommon ∈ tb := tb_k5 (List.mem_of_getElem? (i := 114) rfl) rfl
theorem wd33 : Cond.selects RX11 yX11_fillCommon yX11_fillCommon ∈ tb := tb_p3 (List.mem_of_getElem? (i := 1) rfl)
theorem wd1191 : Cond.methodLink RX11 312 yX10_lengthOf ∈ tb := tb_k5 (List.mem_of_getElem? (i := 125) rfl) rfl
theorem wd1138 : Cond.instanceMethod yX10_lengthOf ∈ tb := tb_k5 (List.mem_of_getElem? (i := 72) rfl) rfl
theorem wd1139 : Cond.selects RX10 yX10_lengthOf yX10_lengthOf ∈ tb := tb_k5 (List.mem_of_getElem? (i := 73) rfl) rfl
theorem wd1182 : Cond.methodLink RX11 315 yX10_fillCommon ∈ tb := tb_k5 (List.mem_of_getElem? (i := 116) rfl) rfl
theorem wd1183 : Cond.instanceMethod yX10_fillCommon ∈ tb := tb_k5 (List.mem_of_getElem? (i := 117) rfl) rfl
theorem wd1184 : Cond.selects RX10 yX10_fillCommon yX10_fillCommon ∈ tb := tb_k5 (List.mem_of_getElem? (i := 118) rfl) rfl
theorem wd1200 : Cond.methodLink RX11 318 yX0_hasStrand ∈ tb := tb_k5 (List.mem_of_getElem? (i := 134) rfl) rfl
theorem wd1201 : Cond.instanceMethod yX0_hasStrand ∈ tb := tb_k5 (List.mem_of_getElem? (i := 135) rfl) rfl
theorem wd1202 : Cond.selects RX0 yX0_hasStrand yX0_hasStrand ∈ tb := tb_k5 (List.mem_of_getElem? (i := 136) rfl) rfl
theorem wd1208 : Cond.methodLink RX11 324 yX0_countOf ∈ tb := tb_k5 (List.mem_of_getElem? (i := 142) rfl) rfl
theorem wd1209 : Cond.instanceMethod yX0_countOf ∈ tb := tb_k5 (List.mem_of_getElem? (i := 143) rfl) rfl
theorem wd1210 : Cond.selects RX0 yX0_countOf yX0_countOf ∈ tb := tb_k5 (List.mem_of_getElem? (i := 144) rfl) rfl
theorem wd1217 : Cond.methodLink RX11 327 yX11_areAlike ∈ tb := tb_k5 (List.mem_of_getElem? (i := 151) rfl) rfl
theorem wd941 : Cond.static yX11_areAlike ∈ tb := tb_k4 (List.mem_of_getElem? (i := 115) rfl) rfl
theorem wd1218 : Cond.methodLink RX11 335 yX2_join ∈ tb := tb_k5 (List.mem_of_getElem? (i := 152) rfl) rfl
theorem wd944 : Cond.instanceMethod yX2_join ∈ tb := tb_k4 (List.mem_of_getElem? (i := 118) rfl) rfl
theorem wd945 : Cond.selects RX2 yX2_join yX2_join ∈ tb := tb_k4 (List.mem_of_getElem? (i := 119) rfl) rfl
theorem wd1223 : Cond.methodLink RX11 339 yX2_raise ∈ tb := tb_k5 (List.mem_of_getElem? (i := 157) rfl) rfl
theorem wd1224 : Cond.instanceMethod yX2_raise ∈ tb := tb_k5 (List.mem_of_getElem? (i := 158) rfl) rfl
theorem wd1225 : Cond.selects RX2 yX2_raise yX2_raise ∈ tb := tb_k5 (List.mem_of_getElem? (i := 159) rfl) rfl
theorem wd1241 : Cond.methodLink RX11 346 yX2_knitStep ∈ tb := tb_k5 (List.mem_of_getElem? (i := 175) rfl) rfl
theorem wd1242 : Cond.instanceMethod yX2_knitStep ∈ tb := tb_k5 (List.mem_of_getElem? (i := 176) rfl) rfl
theorem wd1243 : Cond.selects RX2 yX2_knitStep yX2_knitStep ∈ tb := tb_k5 (List.mem_of_getElem? (i := 177) rfl) rfl
theorem wd1253 : Cond.methodLink RX11 349 yX2_isUnder ∈ tb := tb_k5 (List.mem_of_getElem? (i := 187) rfl) rfl
theorem wd1254 : Cond.instanceMethod yX2_isUnder ∈ tb := tb_k5 (List.mem_of_getElem? (i := 188) rfl) rfl
theorem wd1255 : Cond.selects RX2 yX2_isUnder yX2_isUnder ∈ tb := tb_k5 (List.mem_of_getElem? (i := 189) rfl) rfl
theorem wd1261 : Cond.methodLink RX11 352 yX7_addSeen ∈ tb := tb_k5 (List.mem_of_getElem? (i := 195) rfl) rfl
theorem wd1262 : Cond.instanceMethod yX7_addSeen ∈ tb := tb_k5 (List.mem_of_getElem? (i := 196) rfl) rfl
theorem wd1263 : Cond.selects RX7 yX7_addSeen yX7_addSeen ∈ tb := tb_k5 (List.mem_of_getElem? (i := 197) rfl) rfl
theorem wd1269 : Cond.methodLink RX11 356 yX11_tallyFits ∈ tb := tb_k5 (List.mem_of_getElem? (i := 203) rfl) rfl
theorem wd1271 : Cond.instanceMethod yX11_tallyFits ∈ tb := tb_k5 (List.mem_of_getElem? (i := 205) rfl) rfl
theorem wd36 : Cond.selects RX11 yX11_tallyFits yX11_tallyFits ∈ tb := tb_p3 (List.mem_of_getElem? (i := 4) rfl)
theorem wd1273 : Cond.methodLink RX11 360 yX7_agrees ∈ tb := tb_k5 (List.mem_of_getElem? (i := 207) rfl) rfl
theorem wd1274 : Cond.instanceMethod yX7_agrees ∈ tb := tb_k5 (List.mem_of_getElem? (i := 208) rfl) rfl
theorem wd1275 : Cond.selects RX7 yX7_agrees yX7_agrees ∈ tb := tb_k5 (List.mem_of_getElem? (i := 209) rfl) rfl
theorem wd1285 : Cond.methodLink RX11 363 Lib.Math.max.name ∈ tb := tb_k5 (List.mem_of_getElem? (i := 219) rfl) rfl
theorem wd1290 : Cond.methodLink RX11 368 yX11_draw ∈ tb := tb_k5 (List.mem_of_getElem? (i := 224) rfl) rfl
theorem wd1292 : Cond.instanceMethod yX11_draw ∈ tb := tb_k5 (List.mem_of_getElem? (i := 226) rfl) rfl
theorem wd37 : Cond.selects RX11 yX11_draw yX11_draw ∈ tb := tb_p3 (List.mem_of_getElem? (i := 5) rfl)
theorem wd1298 : Cond.methodLink RX11 379 yX6_add ∈ tb := tb_k5 (List.mem_of_getElem? (i := 232) rfl) rfl
theorem wd722 : Cond.instanceMethod yX6_add ∈ tb := tb_k3 (List.mem_of_getElem? (i := 136) rfl) rfl
theorem wd723 : Cond.selects RX6 yX6_add yX6_add ∈ tb := tb_k3 (List.mem_of_getElem? (i := 137) rfl) rfl
theorem wd288 : Cond.methodLink RX0 3 objectInit ∈ tb := tb_k1 (List.mem_of_getElem? (i := 182) rfl) rfl
theorem wd927 : Cond.methodLink RX0 19 yX0_strandAt ∈ tb := tb_k4 (List.mem_of_getElem? (i := 101) rfl) rfl
theorem wd734 : Cond.instanceMethod yX0_strandAt ∈ tb := tb_k3 (List.mem_of_getElem? (i := 148) rfl) rfl
theorem wd735 : Cond.selects RX0 yX0_strandAt yX0_strandAt ∈ tb := tb_k3 (List.mem_of_getElem? (i := 149) rfl) rfl
theorem wd928 : Cond.methodLink RX0 23 yX0_exchangeAt ∈ tb := tb_k4 (List.mem_of_getElem? (i := 102) rfl) rfl
theorem wd929 : Cond.instanceMethod yX0_exchangeAt ∈ tb := tb_k4 (List.mem_of_getElem? (i := 103) rfl) rfl
theorem wd930 : Cond.selects RX0 yX0_exchangeAt yX0_exchangeAt ∈ tb := tb_k4 (List.mem_of_getElem? (i := 104) rfl) rfl
theorem wd1212 : Cond.methodLink RX0 27 Lib.Math.max.name ∈ tb := tb_k5 (List.mem_of_getElem? (i := 146) rfl) rfl
theorem wd792 : Cond.methodLink RX0 33 arraycopyName ∈ tb := tb_k3 (List.mem_of_getElem? (i := 206) rfl) rfl
theorem wd430 : Cond.methodLink RX1 3 objectInit ∈ tb := tb_k2 (List.mem_of_getElem? (i := 84) rfl) rfl
theorem wd1003 : Cond.methodLink RX1 30 Lib.Math.min.name ∈ tb := tb_k4 (List.mem_of_getElem? (i := 177) rfl) rfl
theorem wd1004 : Cond.methodLink RX1 44 yX4_weigh ∈ tb := tb_k4 (List.mem_of_getElem? (i := 178) rfl) rfl
theorem wd1027 : Cond.methodLink RX1 50 yX1_mayFollow ∈ tb := tb_k4 (List.mem_of_getElem? (i := 201) rfl) rfl
theorem wd1028 : Cond.instanceMethod yX1_mayFollow ∈ tb := tb_k4 (List.mem_of_getElem? (i := 202) rfl) rfl
theorem wd1029 : Cond.selects RX1 yX1_mayFollow yX1_mayFollow ∈ tb := tb_k4 (List.mem_of_getElem? (i := 203) rfl) rfl
theorem wd1023 : Cond.methodLink RX1 60 yX1_follows ∈ tb := tb_k4 (List.mem_of_getElem? (i := 197) rfl) rfl
theorem wd1025 : Cond.instanceMethod yX1_follows ∈ tb := tb_k4 (List.mem_of_getElem? (i := 199) rfl) rfl
theorem wd25 : Cond.selects RX1 yX1_follows yX1_follows ∈ tb := tb_p2 (List.mem_of_getElem? (i := 9) rfl)
theorem wd1018 : Cond.methodLink RX1 63 Lib.Math.max.name ∈ tb := tb_k4 (List.mem_of_getElem? (i := 192) rfl) rfl
theorem wd1019 : Cond.methodLink RX1 66 yX1_measureUp ∈ tb := tb_k4 (List.mem_of_getElem? (i := 193) rfl) rfl
theorem wd1021 : Cond.instanceMethod yX1_measureUp ∈ tb := tb_k4 (List.mem_of_getElem? (i := 195) rfl) rfl
theorem wd24 : Cond.selects RX1 yX1_measureUp yX1_measureUp ∈ tb := tb_p2 (List.mem_of_getElem? (i := 8) rfl)
theorem wd1031 : Cond.methodLink RX1 69 yX1_measureBehind ∈ tb := tb_k4 (List.mem_of_getElem? (i := 205) rfl) rfl
theorem wd1033 : Cond.instanceMethod yX1_measureBehind ∈ tb := tb_k4 (List.mem_of_getElem? (i := 207) rfl) rfl
theorem wd26 : Cond.selects RX1 yX1_measureBehind yX1_measureBehind ∈ tb := tb_p2 (List.mem_of_getElem? (i := 10) rfl)
theorem wd1051 : Cond.methodLink RX1 75 yX1_waysOn ∈ tb := tb_k4 (List.mem_of_getElem? (i := 225) rfl) rfl
theorem wd1053 : Cond.instanceMethod yX1_waysOn ∈ tb := tb_k4 (List.mem_of_getElem? (i := 227) rfl) rfl
theorem wd27 : Cond.selects RX1 yX1_waysOn yX1_waysOn ∈ tb := tb_p2 (List.mem_of_getElem? (i := 11) rfl)
theorem wd1056 : Cond.methodLink RX1 81 Lib.MathLoose.min_long.x ∈ tb := tb_k4 (List.mem_of_getElem? (i := 230) rfl) rfl
theorem wd1067 : Cond.methodLink RX1 84 yX1_isOnLongest ∈ tb := tb_k5 (List.mem_of_getElem? (i := 1) rfl) rfl
theorem wd1069 : Cond.instanceMethod yX1_isOnLongest ∈ tb := tb_k5 (List.mem_of_getElem? (i := 3) rfl) rfl
theorem wd28 : Cond.selects RX1 yX1_isOnLongest yX1_isOnLongest ∈ tb := tb_p2 (List.mem_of_getElem? (i := 12) rfl)
theorem wd1071 : Cond.methodLink RX1 88 yX1_isAloneAtStep ∈ tb := tb_k5 (List.mem_of_getElem? (i := 5) rfl) rfl
theorem wd1073 : Cond.instanceMethod yX1_isAloneAtStep ∈ tb := tb_k5 (List.mem_of_getElem? (i := 7) rfl) rfl
theorem wd29 : Cond.selects RX1 yX1_isAloneAtStep yX1_isAloneAtStep ∈ tb := tb_p2 (List.mem_of_getElem? (i := 13) rfl)
theorem wd503 : Cond.methodLink RX2 3 objectInit ∈ tb := tb_k2 (List.mem_of_getElem? (i := 157) rfl) rfl
theorem wd286 : Cond.instanceMethod yX0_init ∈ tb := tb_k1 (List.mem_of_getElem? (i := 180) rfl) rfl
theorem wd947 : Cond.methodLink RX2 43 yX2_tabulate ∈ tb := tb_k4 (List.mem_of_getElem? (i := 121) rfl) rfl
theorem wd948 : Cond.static yX2_tabulate ∈ tb := tb_k4 (List.mem_of_getElem? (i := 122) rfl) rfl
theorem wd950 : Cond.methodLink RX2 47 yX2_leastBetween ∈ tb := tb_k4 (List.mem_of_getElem? (i := 124) rfl) rfl
theorem wd952 : Cond.instanceMethod yX2_leastBetween ∈ tb := tb_k4 (List.mem_of_getElem? (i := 126) rfl) rfl
theorem wd19 : Cond.selects RX2 yX2_leastBetween yX2_leastBetween ∈ tb := tb_p2 (List.mem_of_getElem? (i := 3) rfl)
theorem wd955 : Cond.methodLink RX2 51 yX2_endOf ∈ tb := tb_k4 (List.mem_of_getElem? (i := 129) rfl) rfl
theorem wd957 : Cond.instanceMethod yX2_endOf ∈ tb := tb_k4 (List.mem_of_getElem? (i := 131) rfl) rfl
theorem wd20 : Cond.selects RX2 yX2_endOf yX2_endOf ∈ tb := tb_p2 (List.mem_of_getElem? (i := 4) rfl)
theorem wd954 : Cond.methodLink RX2 55 Lib.Math.min.name ∈ tb := tb_k4 (List.mem_of_getElem? (i := 128) rfl) rfl
theorem wd1227 : Cond.methodLink RX2 60 yX0_copyFrom ∈ tb := tb_k5 (List.mem_of_getElem? (i := 161) rfl) rfl
theorem wd789 : Cond.instanceMethod yX0_copyFrom ∈ tb := tb_k3 (List.mem_of_getElem? (i := 203) rfl) rfl
theorem wd790 : Cond.selects RX0 yX0_copyFrom yX0_copyFrom ∈ tb := tb_k3 (List.mem_of_getElem? (i := 204) rfl) rfl
theorem wd1228 : Cond.methodLink RX2 64 yX2_join ∈ tb := tb_k5 (List.mem_of_getElem? (i := 162) rfl) rfl
theorem wd1229 : Cond.methodLink RX2 68 yX0_isSame ∈ tb := tb_k5 (List.mem_of_getElem? (i := 163) rfl) rfl
theorem wd1230 : Cond.instanceMethod yX0_isSame ∈ tb := tb_k5 (List.mem_of_getElem? (i := 164) rfl) rfl
theorem wd1231 : Cond.selects RX0 yX0_isSame yX0_isSame ∈ tb := tb_k5 (List.mem_of_getElem? (i := 165) rfl) rfl
theorem wd1245 : Cond.methodLink RX2 72 yX2_leastCrossing ∈ tb := tb_k5 (List.mem_of_getElem? (i := 179) rfl) rfl
theorem wd1247 : Cond.instanceMethod yX2_leastCrossing ∈ tb := tb_k5 (List.mem_of_getElem? (i := 181) rfl) rfl
theorem wd35 : Cond.selects RX2 yX2_leastCrossing yX2_leastCrossing ∈ tb := tb_p3 (List.mem_of_getElem? (i := 3) rfl)
theorem wd365 : Cond.methodLink RX3 3 objectInit ∈ tb := tb_k2 (List.mem_of_getElem? (i := 19) rfl) rfl
theorem wd366 : Cond.methodLink RX3 9 Lib.Math.max.name ∈ tb := tb_k2 (List.mem_of_getElem? (i := 20) rfl) rfl
theorem wd834 : Cond.methodLink RX3 31 yX3_has ∈ tb := tb_k4 (List.mem_of_getElem? (i := 8) rfl) rfl
theorem wd835 : Cond.instanceMethod yX3_has ∈ tb := tb_k4 (List.mem_of_getElem? (i := 9) rfl) rfl
theorem wd836 : Cond.selects RX3 yX3_has yX3_has ∈ tb := tb_k4 (List.mem_of_getElem? (i := 10) rfl) rfl
theorem wd822 : Cond.methodLink RX3 35 yX3_forgetOldest ∈ tb := tb_k3 (List.mem_of_getElem? (i := 236) rfl) rfl
theorem wd824 : Cond.instanceMethod yX3_forgetOldest ∈ tb := tb_k3 (List.mem_of_getElem? (i := 238) rfl) rfl
theorem wd18 : Cond.selects RX3 yX3_forgetOldest yX3_forgetOldest ∈ tb := tb_p2 (List.mem_of_getElem? (i := 2) rfl)
theorem wd830 : Cond.methodLink RX3 38 yX3_verbOf ∈ tb := tb_k4 (List.mem_of_getElem? (i := 4) rfl) rfl
theorem wd838 : Cond.methodLink RX3 42 yX3_whichOf ∈ tb := tb_k4 (List.mem_of_getElem? (i := 12) rfl) rfl
theorem wd842 : Cond.methodLink RX3 45 yX3_valueOf ∈ tb := tb_k4 (List.mem_of_getElem? (i := 16) rfl) rfl
theorem wd846 : Cond.methodLink RX3 48 yX3_add ∈ tb := tb_k4 (List.mem_of_getElem? (i := 20) rfl) rfl
theorem wd348 : Cond.methodLink RX4 3 objectInit ∈ tb := tb_k2 (List.mem_of_getElem? (i := 2) rfl) rfl
theorem wd609 : Cond.methodLink RX4 22 yX4_add ∈ tb := tb_k3 (List.mem_of_getElem? (i := 23) rfl) rfl
theorem wd610 : Cond.instanceMethod yX4_add ∈ tb := tb_k3 (List.mem_of_getElem? (i := 24) rfl) rfl
theorem wd611 : Cond.selects RX4 yX4_add yX4_add ∈ tb := tb_k3 (List.mem_of_getElem? (i := 25) rfl) rfl
theorem wd797 : Cond.methodLink RX4 26 arraycopyName ∈ tb := tb_k3 (List.mem_of_getElem? (i := 211) rfl) rfl
theorem wd1008 : Cond.methodLink RX4 32 yX4_result ∈ tb := tb_k4 (List.mem_of_getElem? (i := 182) rfl) rfl
theorem wd1009 : Cond.static yX4_result ∈ tb := tb_k4 (List.mem_of_getElem? (i := 183) rfl) rfl
theorem wd1011 : Cond.methodLink RX4 36 yX4_operand ∈ tb := tb_k4 (List.mem_of_getElem? (i := 185) rfl) rfl
theorem wd1012 : Cond.static yX4_operand ∈ tb := tb_k4 (List.mem_of_getElem? (i := 186) rfl) rfl
theorem wd241 : Cond.methodLink RX5 3 objectInit ∈ tb := tb_k1 (List.mem_of_getElem? (i := 135) rfl) rfl
theorem wd244 : Cond.methodLink RX5 11 yX7_init ∈ tb := tb_k1 (List.mem_of_getElem? (i := 138) rfl) rfl
theorem wd345 : Cond.methodLink RX5 20 yX4_init ∈ tb := tb_k1 (List.mem_of_getElem? (i := 239) rfl) rfl
theorem wd362 : Cond.methodLink RX5 27 yX3_init ∈ tb := tb_k2 (List.mem_of_getElem? (i := 16) rfl) rfl
theorem wd601 : Cond.methodLink RX5 38 yX7_clear ∈ tb := tb_k3 (List.mem_of_getElem? (i := 15) rfl) rfl
theorem wd602 : Cond.instanceMethod yX7_clear ∈ tb := tb_k3 (List.mem_of_getElem? (i := 16) rfl) rfl
theorem wd603 : Cond.selects RX7 yX7_clear yX7_clear ∈ tb := tb_k3 (List.mem_of_getElem? (i := 17) rfl) rfl
theorem wd605 : Cond.methodLink RX5 41 yX4_bePlain ∈ tb := tb_k3 (List.mem_of_getElem? (i := 19) rfl) rfl
theorem wd606 : Cond.instanceMethod yX4_bePlain ∈ tb := tb_k3 (List.mem_of_getElem? (i := 20) rfl) rfl
theorem wd607 : Cond.selects RX4 yX4_bePlain yX4_bePlain ∈ tb := tb_k3 (List.mem_of_getElem? (i := 21) rfl) rfl
theorem wd613 : Cond.methodLink RX5 57 yX9_advance ∈ tb := tb_k3 (List.mem_of_getElem? (i := 27) rfl) rfl
theorem wd614 : Cond.instanceMethod yX9_advance ∈ tb := tb_k3 (List.mem_of_getElem? (i := 28) rfl) rfl
theorem wd615 : Cond.selects RX9 yX9_advance yX9_advance ∈ tb := tb_k3 (List.mem_of_getElem? (i := 29) rfl) rfl
theorem wd693 : Cond.methodLink RX5 63 yX5_readStatement ∈ tb := tb_k3 (List.mem_of_getElem? (i := 107) rfl) rfl
theorem wd695 : Cond.instanceMethod yX5_readStatement ∈ tb := tb_k3 (List.mem_of_getElem? (i := 109) rfl) rfl
theorem wd3 : Cond.selects RX5 yX5_readStatement yX5_readStatement ∈ tb := tb_p1 (List.mem_of_getElem? (i := 3) rfl)
theorem wd806 : Cond.methodLink RX5 70 yX5_readLine ∈ tb := tb_k3 (List.mem_of_getElem? (i := 220) rfl) rfl
theorem wd808 : Cond.instanceMethod yX5_readLine ∈ tb := tb_k3 (List.mem_of_getElem? (i := 222) rfl) rfl
theorem wd15 : Cond.selects RX5 yX5_readLine yX5_readLine ∈ tb := tb_p1 (List.mem_of_getElem? (i := 15) rfl)
theorem wd697 : Cond.methodLink RX5 80 yX5_readRow ∈ tb := tb_k3 (List.mem_of_getElem? (i := 111) rfl) rfl
theorem wd699 : Cond.instanceMethod yX5_readRow ∈ tb := tb_k3 (List.mem_of_getElem? (i := 113) rfl) rfl
theorem wd4 : Cond.selects RX5 yX5_readRow yX5_readRow ∈ tb := tb_p1 (List.mem_of_getElem? (i := 4) rfl)
theorem wd725 : Cond.methodLink RX5 83 yX5_readBraid ∈ tb := tb_k3 (List.mem_of_getElem? (i := 139) rfl) rfl
theorem wd727 : Cond.instanceMethod yX5_readBraid ∈ tb := tb_k3 (List.mem_of_getElem? (i := 141) rfl) rfl
theorem wd7 : Cond.selects RX5 yX5_readBraid yX5_readBraid ∈ tb := tb_p1 (List.mem_of_getElem? (i := 7) rfl)
theorem wd741 : Cond.methodLink RX5 86 yX5_readLaw ∈ tb := tb_k3 (List.mem_of_getElem? (i := 155) rfl) rfl
theorem wd743 : Cond.instanceMethod yX5_readLaw ∈ tb := tb_k3 (List.mem_of_getElem? (i := 157) rfl) rfl
theorem wd8 : Cond.selects RX5 yX5_readLaw yX5_readLaw ∈ tb := tb_p1 (List.mem_of_getElem? (i := 8) rfl)
theorem wd701 : Cond.methodLink RX5 89 yX5_wrong ∈ tb := tb_k3 (List.mem_of_getElem? (i := 115) rfl) rfl
theorem wd703 : Cond.instanceMethod yX5_wrong ∈ tb := tb_k3 (List.mem_of_getElem? (i := 117) rfl) rfl
theorem wd5 : Cond.selects RX5 yX5_wrong yX5_wrong ∈ tb := tb_p1 (List.mem_of_getElem? (i := 5) rfl)
theorem wd709 : Cond.methodLink RX5 93 yX9_isName ∈ tb := tb_k3 (List.mem_of_getElem? (i := 123) rfl) rfl
theorem wd710 : Cond.instanceMethod yX9_isName ∈ tb := tb_k3 (List.mem_of_getElem? (i := 124) rfl) rfl
theorem wd711 : Cond.selects RX9 yX9_isName yX9_isName ∈ tb := tb_k3 (List.mem_of_getElem? (i := 125) rfl) rfl
theorem wd713 : Cond.methodLink RX5 101 yX7_rowNamed ∈ tb := tb_k3 (List.mem_of_getElem? (i := 127) rfl) rfl
theorem wd714 : Cond.instanceMethod yX7_rowNamed ∈ tb := tb_k3 (List.mem_of_getElem? (i := 128) rfl) rfl
theorem wd715 : Cond.selects RX7 yX7_rowNamed yX7_rowNamed ∈ tb := tb_k3 (List.mem_of_getElem? (i := 129) rfl) rfl
theorem wd717 : Cond.methodLink RX5 105 yX7_braidNamed ∈ tb := tb_k3 (List.mem_of_getElem? (i := 131) rfl) rfl
theorem wd718 : Cond.instanceMethod yX7_braidNamed ∈ tb := tb_k3 (List.mem_of_getElem? (i := 132) rfl) rfl
theorem wd719 : Cond.selects RX7 yX7_braidNamed yX7_braidNamed ∈ tb := tb_k3 (List.mem_of_getElem? (i := 133) rfl) rfl
theorem wd705 : Cond.methodLink RX5 111 yX5_readNewName ∈ tb := tb_k3 (List.mem_of_getElem? (i := 119) rfl) rfl
theorem wd707 : Cond.instanceMethod yX5_readNewName ∈ tb := tb_k3 (List.mem_of_getElem? (i := 121) rfl) rfl
theorem wd6 : Cond.selects RX5 yX5_readNewName yX5_readNewName ∈ tb := tb_p1 (List.mem_of_getElem? (i := 6) rfl)
theorem wd721 : Cond.methodLink RX5 132 yX6_add ∈ tb := tb_k3 (List.mem_of_getElem? (i := 135) rfl) rfl
theorem wd729 : Cond.methodLink RX5 152 yX0_isWhole ∈ tb := tb_k3 (List.mem_of_getElem? (i := 143) rfl) rfl
theorem wd730 : Cond.instanceMethod yX0_isWhole ∈ tb := tb_k3 (List.mem_of_getElem? (i := 144) rfl) rfl
theorem wd731 : Cond.selects RX0 yX0_isWhole yX0_isWhole ∈ tb := tb_k3 (List.mem_of_getElem? (i := 145) rfl) rfl
theorem wd733 : Cond.methodLink RX5 155 yX0_strandAt ∈ tb := tb_k3 (List.mem_of_getElem? (i := 147) rfl) rfl
theorem wd737 : Cond.methodLink RX5 159 yX0_addStrand ∈ tb := tb_k3 (List.mem_of_getElem? (i := 151) rfl) rfl
theorem wd738 : Cond.instanceMethod yX0_addStrand ∈ tb := tb_k3 (List.mem_of_getElem? (i := 152) rfl) rfl
theorem wd739 : Cond.selects RX0 yX0_addStrand yX0_addStrand ∈ tb := tb_k3 (List.mem_of_getElem? (i := 153) rfl) rfl
theorem wd810 : Cond.methodLink RX5 162 yX5_readToldName ∈ tb := tb_k3 (List.mem_of_getElem? (i := 224) rfl) rfl
theorem wd812 : Cond.instanceMethod yX5_readToldName ∈ tb := tb_k3 (List.mem_of_getElem? (i := 226) rfl) rfl
theorem wd16 : Cond.selects RX5 yX5_readToldName yX5_readToldName ∈ tb := tb_p2 (List.mem_of_getElem? (i := 0) rfl)
theorem wd814 : Cond.methodLink RX5 169 yX5_readNumber ∈ tb := tb_k3 (List.mem_of_getElem? (i := 228) rfl) rfl
theorem wd816 : Cond.instanceMethod yX5_readNumber ∈ tb := tb_k3 (List.mem_of_getElem? (i := 230) rfl) rfl
theorem wd17 : Cond.selects RX5 yX5_readNumber yX5_readNumber ∈ tb := tb_p2 (List.mem_of_getElem? (i := 1) rfl)
theorem wd818 : Cond.methodLink RX5 172 yX3_add ∈ tb := tb_k3 (List.mem_of_getElem? (i := 232) rfl) rfl
theorem wd745 : Cond.methodLink RX5 187 yX5_takePart ∈ tb := tb_k3 (List.mem_of_getElem? (i := 159) rfl) rfl
theorem wd747 : Cond.instanceMethod yX5_takePart ∈ tb := tb_k3 (List.mem_of_getElem? (i := 161) rfl) rfl
theorem wd9 : Cond.selects RX5 yX5_takePart yX5_takePart ∈ tb := tb_p1 (List.mem_of_getElem? (i := 9) rfl)
theorem wd758 : Cond.methodLink RX5 190 yX5_release ∈ tb := tb_k3 (List.mem_of_getElem? (i := 172) rfl) rfl
theorem wd760 : Cond.instanceMethod yX5_release ∈ tb := tb_k3 (List.mem_of_getElem? (i := 174) rfl) rfl
theorem wd12 : Cond.selects RX5 yX5_release yX5_release ∈ tb := tb_p1 (List.mem_of_getElem? (i := 12) rfl)
theorem wd765 : Cond.methodLink RX5 193 yX5_closeBracket ∈ tb := tb_k3 (List.mem_of_getElem? (i := 179) rfl) rfl
theorem wd767 : Cond.instanceMethod yX5_closeBracket ∈ tb := tb_k3 (List.mem_of_getElem? (i := 181) rfl) rfl
theorem wd13 : Cond.selects RX5 yX5_closeBracket yX5_closeBracket ∈ tb := tb_p1 (List.mem_of_getElem? (i := 13) rfl)
theorem wd769 : Cond.methodLink RX5 196 yX5_takeOperator ∈ tb := tb_k3 (List.mem_of_getElem? (i := 183) rfl) rfl
theorem wd771 : Cond.instanceMethod yX5_takeOperator ∈ tb := tb_k3 (List.mem_of_getElem? (i := 185) rfl) rfl
theorem wd14 : Cond.selects RX5 yX5_takeOperator yX5_takeOperator ∈ tb := tb_p1 (List.mem_of_getElem? (i := 14) rfl)
theorem wd749 : Cond.methodLink RX5 199 yX5_hold ∈ tb := tb_k3 (List.mem_of_getElem? (i := 163) rfl) rfl
theorem wd751 : Cond.instanceMethod yX5_hold ∈ tb := tb_k3 (List.mem_of_getElem? (i := 165) rfl) rfl
theorem wd10 : Cond.selects RX5 yX5_hold yX5_hold ∈ tb := tb_p1 (List.mem_of_getElem? (i := 10) rfl)
theorem wd753 : Cond.methodLink RX5 202 yX4_add ∈ tb := tb_k3 (List.mem_of_getElem? (i := 167) rfl) rfl
theorem wd754 : Cond.methodLink RX5 204 yX5_releaseNots ∈ tb := tb_k3 (List.mem_of_getElem? (i := 168) rfl) rfl
theorem wd756 : Cond.instanceMethod yX5_releaseNots ∈ tb := tb_k3 (List.mem_of_getElem? (i := 170) rfl) rfl
theorem wd11 : Cond.selects RX5 yX5_releaseNots yX5_releaseNots ∈ tb := tb_p1 (List.mem_of_getElem? (i := 11) rfl)
theorem wd762 : Cond.methodLink RX5 207 yX5_rankOf ∈ tb := tb_k3 (List.mem_of_getElem? (i := 176) rfl) rfl
theorem wd763 : Cond.static yX5_rankOf ∈ tb := tb_k3 (List.mem_of_getElem? (i := 177) rfl) rfl
theorem wd256 : Cond.methodLink RX6 3 objectInit ∈ tb := tb_k1 (List.mem_of_getElem? (i := 150) rfl) rfl
theorem wd785 : Cond.methodLink RX6 19 arraycopyName ∈ tb := tb_k3 (List.mem_of_getElem? (i := 199) rfl) rfl
theorem wd247 : Cond.methodLink RX7 3 objectInit ∈ tb := tb_k1 (List.mem_of_getElem? (i := 141) rfl) rfl
theorem wd781 : Cond.methodLink RX7 46 yX6_copyFrom ∈ tb := tb_k3 (List.mem_of_getElem? (i := 195) rfl) rfl
theorem wd782 : Cond.instanceMethod yX6_copyFrom ∈ tb := tb_k3 (List.mem_of_getElem? (i := 196) rfl) rfl
theorem wd783 : Cond.selects RX6 yX6_copyFrom yX6_copyFrom ∈ tb := tb_k3 (List.mem_of_getElem? (i := 197) rfl) rfl
theorem wd788 : Cond.methodLink RX7 50 yX0_copyFrom ∈ tb := tb_k3 (List.mem_of_getElem? (i := 202) rfl) rfl
theorem wd891 : Cond.methodLink RX7 61 yX7_rowAt ∈ tb := tb_k4 (List.mem_of_getElem? (i := 65) rfl) rfl
theorem wd892 : Cond.methodLink RX7 65 yX6_add ∈ tb := tb_k4 (List.mem_of_getElem? (i := 66) rfl) rfl
theorem wd910 : Cond.methodLink RX7 72 yX6_flip ∈ tb := tb_k4 (List.mem_of_getElem? (i := 84) rfl) rfl
theorem wd911 : Cond.instanceMethod yX6_flip ∈ tb := tb_k4 (List.mem_of_getElem? (i := 85) rfl) rfl
theorem wd912 : Cond.selects RX6 yX6_flip yX6_flip ∈ tb := tb_k4 (List.mem_of_getElem? (i := 86) rfl) rfl
theorem wd922 : Cond.methodLink RX7 75 yX7_braidAt ∈ tb := tb_k4 (List.mem_of_getElem? (i := 96) rfl) rfl
theorem wd923 : Cond.methodLink RX7 79 yX0_crossAt ∈ tb := tb_k4 (List.mem_of_getElem? (i := 97) rfl) rfl
theorem wd924 : Cond.instanceMethod yX0_crossAt ∈ tb := tb_k4 (List.mem_of_getElem? (i := 98) rfl) rfl
theorem wd925 : Cond.selects RX0 yX0_crossAt yX0_crossAt ∈ tb := tb_k4 (List.mem_of_getElem? (i := 99) rfl) rfl
theorem wd970 : Cond.methodLink RX7 82 yX0_exchangeAt ∈ tb := tb_k4 (List.mem_of_getElem? (i := 144) rfl) rfl
theorem wd943 : Cond.methodLink RX7 89 yX2_join ∈ tb := tb_k4 (List.mem_of_getElem? (i := 117) rfl) rfl
theorem wd486 : Cond.methodLink RX8 3 objectInit ∈ tb := tb_k2 (List.mem_of_getElem? (i := 140) rfl) rfl
theorem wd1095 : Cond.methodLink RX8 28 yX1_mayFollow ∈ tb := tb_k5 (List.mem_of_getElem? (i := 29) rfl) rfl
theorem wd1096 : Cond.methodLink RX8 32 Lib.Math.max.name ∈ tb := tb_k5 (List.mem_of_getElem? (i := 30) rfl) rfl
theorem wd1105 : Cond.methodLink RX8 38 yX8_insert ∈ tb := tb_k5 (List.mem_of_getElem? (i := 39) rfl) rfl
theorem wd1107 : Cond.instanceMethod yX8_insert ∈ tb := tb_k5 (List.mem_of_getElem? (i := 41) rfl) rfl
theorem wd30 : Cond.selects RX8 yX8_insert yX8_insert ∈ tb := tb_p2 (List.mem_of_getElem? (i := 14) rfl)
theorem wd144 : Cond.methodLink RX9 3 objectInit ∈ tb := tb_k1 (List.mem_of_getElem? (i := 38) rfl) rfl
theorem wd194 : Cond.methodLink RX9 31 yX9_withLetter ∈ tb := tb_k1 (List.mem_of_getElem? (i := 88) rfl) rfl
theorem wd195 : Cond.static yX9_withLetter ∈ tb := tb_k1 (List.mem_of_getElem? (i := 89) rfl) rfl
theorem wd617 : Cond.methodLink RX9 57 yX9_isLetter ∈ tb := tb_k3 (List.mem_of_getElem? (i := 31) rfl) rfl
theorem wd618 : Cond.static yX9_isLetter ∈ tb := tb_k3 (List.mem_of_getElem? (i := 32) rfl) rfl
theorem wd620 : Cond.methodLink RX9 61 yX9_takeWord ∈ tb := tb_k3 (List.mem_of_getElem? (i := 34) rfl) rfl
theorem wd622 : Cond.instanceMethod yX9_takeWord ∈ tb := tb_k3 (List.mem_of_getElem? (i := 36) rfl) rfl
theorem wd0 : Cond.selects RX9 yX9_takeWord yX9_takeWord ∈ tb := tb_p1 (List.mem_of_getElem? (i := 0) rfl)
theorem wd624 : Cond.methodLink RX9 64 yX9_isDigit ∈ tb := tb_k3 (List.mem_of_getElem? (i := 38) rfl) rfl
theorem wd625 : Cond.static yX9_isDigit ∈ tb := tb_k3 (List.mem_of_getElem? (i := 39) rfl) rfl
theorem wd627 : Cond.methodLink RX9 67 yX9_takeNumber ∈ tb := tb_k3 (List.mem_of_getElem? (i := 41) rfl) rfl
theorem wd629 : Cond.instanceMethod yX9_takeNumber ∈ tb := tb_k3 (List.mem_of_getElem? (i := 43) rfl) rfl
theorem wd1 : Cond.selects RX9 yX9_takeNumber yX9_takeNumber ∈ tb := tb_p1 (List.mem_of_getElem? (i := 1) rfl)
theorem wd631 : Cond.methodLink RX9 70 yX9_takeSign ∈ tb := tb_k3 (List.mem_of_getElem? (i := 45) rfl) rfl
theorem wd633 : Cond.instanceMethod yX9_takeSign ∈ tb := tb_k3 (List.mem_of_getElem? (i := 47) rfl) rfl
theorem wd2 : Cond.selects RX9 yX9_takeSign yX9_takeSign ∈ tb := tb_p1 (List.mem_of_getElem? (i := 2) rfl)
theorem wd468 : Cond.methodLink RX10 3 objectInit ∈ tb := tb_k2 (List.mem_of_getElem? (i := 122) rfl) rfl
theorem wd1125 : Cond.methodLink RX10 27 yX1_measureFrom ∈ tb := tb_k5 (List.mem_of_getElem? (i := 59) rfl) rfl
theorem wd1126 : Cond.instanceMethod yX1_measureFrom ∈ tb := tb_k5 (List.mem_of_getElem? (i := 60) rfl) rfl
theorem wd1127 : Cond.selects RX1 yX1_measureFrom yX1_measureFrom ∈ tb := tb_k5 (List.mem_of_getElem? (i := 61) rfl) rfl
theorem wd1186 : Cond.methodLink RX10 31 yX10_fillCommonFrom ∈ tb := tb_k5 (List.mem_of_getElem? (i := 120) rfl) rfl
theorem wd1188 : Cond.instanceMethod yX10_fillCommonFrom ∈ tb := tb_k5 (List.mem_of_getElem? (i := 122) rfl) rfl
theorem wd34 : Cond.selects RX10 yX10_fillCommonFrom yX10_fillCommonFrom ∈ tb := tb_p3 (List.mem_of_getElem? (i := 2) rfl)
theorem wd1190 : Cond.methodLink RX10 38 Lib.Math.max.name ∈ tb := tb_k5 (List.mem_of_getElem? (i := 124) rfl) rfl
theorem wd1137 : Cond.methodLink RX10 44 yX10_lengthOf ∈ tb := tb_k5 (List.mem_of_getElem? (i := 71) rfl) rfl
theorem wd1133 : Cond.methodLink RX10 47 yX10_left ∈ tb := tb_k5 (List.mem_of_getElem? (i := 67) rfl) rfl
theorem wd1135 : Cond.instanceMethod yX10_left ∈ tb := tb_k5 (List.mem_of_getElem? (i := 69) rfl) rfl
theorem wd32 : Cond.selects RX10 yX10_left yX10_left ∈ tb := tb_p3 (List.mem_of_getElem? (i := 0) rfl)
theorem wd1149 : Cond.methodLink RX10 50 yX10_strandFrom ∈ tb := tb_k5 (List.mem_of_getElem? (i := 83) rfl) rfl
theorem wd1303 : Cond.methodLink RL 7 yX11_weight ∈ tb := tb_k5 (List.mem_of_getElem? (i := 237) rfl) rfl
theorem wd1304 : Cond.instanceMethod yX11_weight ∈ tb := tb_k5 (List.mem_of_getElem? (i := 238) rfl) rfl
theorem wd1305 : Cond.selects RX11 yX11_weight yX11_weight ∈ tb := tb_k5 (List.mem_of_getElem? (i := 239) rfl) rfl
theorem wd133 : Cond.methodLink RL 15 yX11_init ∈ tb := tb_k1 (List.mem_of_getElem? (i := 27) rfl) rfl
theorem wd134 : Cond.instanceMethod yX11_init ∈ tb := tb_k1 (List.mem_of_getElem? (i := 28) rfl) rfl
theorem wd1387 : Cond.methodLink RL 18 yX12_init ∈ tb := tb_k6 (List.mem_of_getElem? (i := 81) rfl) rfl
theorem wd1388 : Cond.instanceMethod yX12_init ∈ tb := tb_k6 (List.mem_of_getElem? (i := 82) rfl) rfl
theorem wd585 : Cond.methodLink RL 21 yX11_feed ∈ tb := tb_k2 (List.mem_of_getElem? (i := 239) rfl) rfl
theorem wd586 : Cond.instanceMethod yX11_feed ∈ tb := tb_k3 (List.mem_of_getElem? (i := 0) rfl) rfl
theorem wd587 : Cond.selects RX11 yX11_feed yX11_feed ∈ tb := tb_k3 (List.mem_of_getElem? (i := 1) rfl) rfl
theorem wd1377 : Cond.methodLink RL 25 yX12_feed ∈ tb := tb_k6 (List.mem_of_getElem? (i := 71) rfl) rfl
theorem wd1378 : Cond.instanceMethod yX12_feed ∈ tb := tb_k6 (List.mem_of_getElem? (i := 72) rfl) rfl
theorem wd1379 : Cond.selects RX12 yX12_feed yX12_feed ∈ tb := tb_k6 (List.mem_of_getElem? (i := 73) rfl) rfl
theorem wd593 : Cond.methodLink RL 26 yX11_index ∈ tb := tb_k3 (List.mem_of_getElem? (i := 7) rfl) rfl
theorem wd594 : Cond.instanceMethod yX11_index ∈ tb := tb_k3 (List.mem_of_getElem? (i := 8) rfl) rfl
theorem wd595 : Cond.selects RX11 yX11_index yX11_index ∈ tb := tb_k3 (List.mem_of_getElem? (i := 9) rfl) rfl
theorem wd1553 : Cond.methodLink RL 30 yX12_index ∈ tb := tb_k7 (List.mem_of_getElem? (i := 7) rfl) rfl
theorem wd1554 : Cond.instanceMethod yX12_index ∈ tb := tb_k7 (List.mem_of_getElem? (i := 8) rfl) rfl
theorem wd1555 : Cond.selects RX12 yX12_index yX12_index ∈ tb := tb_k7 (List.mem_of_getElem? (i := 9) rfl) rfl
theorem wd798 : Cond.methodLink RL 31 yX11_work ∈ tb := tb_k3 (List.mem_of_getElem? (i := 212) rfl) rfl
theorem wd799 : Cond.instanceMethod yX11_work ∈ tb := tb_k3 (List.mem_of_getElem? (i := 213) rfl) rfl
theorem wd800 : Cond.selects RX11 yX11_work yX11_work ∈ tb := tb_k3 (List.mem_of_getElem? (i := 214) rfl) rfl
theorem wd1664 : Cond.methodLink RL 34 yX12_work ∈ tb := tb_k7 (List.mem_of_getElem? (i := 118) rfl) rfl
theorem wd1665 : Cond.instanceMethod yX12_work ∈ tb := tb_k7 (List.mem_of_getElem? (i := 119) rfl) rfl
theorem wd1666 : Cond.selects RX12 yX12_work yX12_work ∈ tb := tb_k7 (List.mem_of_getElem? (i := 120) rfl) rfl
theorem wd847 : Cond.methodLink RL 35 yX11_row ∈ tb := tb_k4 (List.mem_of_getElem? (i := 21) rfl) rfl
theorem wd848 : Cond.instanceMethod yX11_row ∈ tb := tb_k4 (List.mem_of_getElem? (i := 22) rfl) rfl
theorem wd849 : Cond.selects RX11 yX11_row yX11_row ∈ tb := tb_k4 (List.mem_of_getElem? (i := 23) rfl) rfl
theorem wd1893 : Cond.methodLink RL 38 yX12_row ∈ tb := tb_k8 (List.mem_of_getElem? (i := 107) rfl) rfl
theorem wd1894 : Cond.instanceMethod yX12_row ∈ tb := tb_k8 (List.mem_of_getElem? (i := 108) rfl) rfl
theorem wd1895 : Cond.selects RX12 yX12_row yX12_row ∈ tb := tb_k8 (List.mem_of_getElem? (i := 109) rfl) rfl
theorem wd855 : Cond.methodLink RL 39 yX11_item ∈ tb := tb_k4 (List.mem_of_getElem? (i := 29) rfl) rfl
theorem wd856 : Cond.instanceMethod yX11_item ∈ tb := tb_k4 (List.mem_of_getElem? (i := 30) rfl) rfl
theorem wd857 : Cond.selects RX11 yX11_item yX11_item ∈ tb := tb_k4 (List.mem_of_getElem? (i := 31) rfl) rfl
theorem wd1897 : Cond.methodLink RL 42 yX12_item ∈ tb := tb_k8 (List.mem_of_getElem? (i := 111) rfl) rfl
theorem wd1898 : Cond.instanceMethod yX12_item ∈ tb := tb_k8 (List.mem_of_getElem? (i := 112) rfl) rfl
theorem wd1899 : Cond.selects RX12 yX12_item yX12_item ∈ tb := tb_k8 (List.mem_of_getElem? (i := 113) rfl) rfl
theorem wd1901 : Cond.methodLink RL 48 yX12_weight ∈ tb := tb_k8 (List.mem_of_getElem? (i := 115) rfl) rfl
theorem wd1902 : Cond.instanceMethod yX12_weight ∈ tb := tb_k8 (List.mem_of_getElem? (i := 116) rfl) rfl
theorem wd1903 : Cond.selects RX12 yX12_weight yX12_weight ∈ tb := tb_k8 (List.mem_of_getElem? (i := 117) rfl) rfl
theorem wd1373 : Cond.methodLink RL 49 yX12_thrown ∈ tb := tb_k6 (List.mem_of_getElem? (i := 67) rfl) rfl
theorem wd1374 : Cond.instanceMethod yX12_thrown ∈ tb := tb_k6 (List.mem_of_getElem? (i := 68) rfl) rfl
theorem wd1375 : Cond.selects RX12 yX12_thrown yX12_thrown ∈ tb := tb_k6 (List.mem_of_getElem? (i := 69) rfl) rfl
theorem wd863 : Cond.methodLink RL 52 yX11_braid ∈ tb := tb_k4 (List.mem_of_getElem? (i := 37) rfl) rfl
theorem wd864 : Cond.instanceMethod yX11_braid ∈ tb := tb_k4 (List.mem_of_getElem? (i := 38) rfl) rfl
theorem wd865 : Cond.selects RX11 yX11_braid yX11_braid ∈ tb := tb_k4 (List.mem_of_getElem? (i := 39) rfl) rfl
theorem wd1823 : Cond.methodLink RL 55 yX12_braid ∈ tb := tb_k8 (List.mem_of_getElem? (i := 37) rfl) rfl
theorem wd1824 : Cond.instanceMethod yX12_braid ∈ tb := tb_k8 (List.mem_of_getElem? (i := 38) rfl) rfl
theorem wd1825 : Cond.selects RX12 yX12_braid yX12_braid ∈ tb := tb_k8 (List.mem_of_getElem? (i := 39) rfl) rfl
theorem wd883 : Cond.methodLink RL 56 yX11_append ∈ tb := tb_k4 (List.mem_of_getElem? (i := 57) rfl) rfl
theorem wd884 : Cond.instanceMethod yX11_append ∈ tb := tb_k4 (List.mem_of_getElem? (i := 58) rfl) rfl
theorem wd885 : Cond.selects RX11 yX11_append yX11_append ∈ tb := tb_k4 (List.mem_of_getElem? (i := 59) rfl) rfl
theorem wd1905 : Cond.methodLink RL 59 yX12_append ∈ tb := tb_k8 (List.mem_of_getElem? (i := 119) rfl) rfl
theorem wd1906 : Cond.instanceMethod yX12_append ∈ tb := tb_k8 (List.mem_of_getElem? (i := 120) rfl) rfl
theorem wd1907 : Cond.selects RX12 yX12_append yX12_append ∈ tb := tb_k8 (List.mem_of_getElem? (i := 121) rfl) rfl
theorem wd894 : Cond.methodLink RL 60 yX11_cut ∈ tb := tb_k4 (List.mem_of_getElem? (i := 68) rfl) rfl
theorem wd895 : Cond.instanceMethod yX11_cut ∈ tb := tb_k4 (List.mem_of_getElem? (i := 69) rfl) rfl
theorem wd896 : Cond.selects RX11 yX11_cut yX11_cut ∈ tb := tb_k4 (List.mem_of_getElem? (i := 70) rfl) rfl
theorem wd1933 : Cond.methodLink RL 64 yX12_cut ∈ tb := tb_k8 (List.mem_of_getElem? (i := 147) rfl) rfl
theorem wd1934 : Cond.instanceMethod yX12_cut ∈ tb := tb_k8 (List.mem_of_getElem? (i := 148) rfl) rfl
theorem wd1935 : Cond.selects RX12 yX12_cut yX12_cut ∈ tb := tb_k8 (List.mem_of_getElem? (i := 149) rfl) rfl
theorem wd902 : Cond.methodLink RL 65 yX11_turn ∈ tb := tb_k4 (List.mem_of_getElem? (i := 76) rfl) rfl
theorem wd903 : Cond.instanceMethod yX11_turn ∈ tb := tb_k4 (List.mem_of_getElem? (i := 77) rfl) rfl
theorem wd904 : Cond.selects RX11 yX11_turn yX11_turn ∈ tb := tb_k4 (List.mem_of_getElem? (i := 78) rfl) rfl
theorem wd1937 : Cond.methodLink RL 69 yX12_turn ∈ tb := tb_k8 (List.mem_of_getElem? (i := 151) rfl) rfl
theorem wd1938 : Cond.instanceMethod yX12_turn ∈ tb := tb_k8 (List.mem_of_getElem? (i := 152) rfl) rfl
theorem wd1939 : Cond.selects RX12 yX12_turn yX12_turn ∈ tb := tb_k8 (List.mem_of_getElem? (i := 153) rfl) rfl
theorem wd914 : Cond.methodLink RL 70 yX11_cross ∈ tb := tb_k4 (List.mem_of_getElem? (i := 88) rfl) rfl
theorem wd915 : Cond.instanceMethod yX11_cross ∈ tb := tb_k4 (List.mem_of_getElem? (i := 89) rfl) rfl
theorem wd916 : Cond.selects RX11 yX11_cross yX11_cross ∈ tb := tb_k4 (List.mem_of_getElem? (i := 90) rfl) rfl
theorem wd1941 : Cond.methodLink RL 74 yX12_cross ∈ tb := tb_k8 (List.mem_of_getElem? (i := 155) rfl) rfl
theorem wd1942 : Cond.instanceMethod yX12_cross ∈ tb := tb_k8 (List.mem_of_getElem? (i := 156) rfl) rfl
theorem wd1943 : Cond.selects RX12 yX12_cross yX12_cross ∈ tb := tb_k8 (List.mem_of_getElem? (i := 157) rfl) rfl
theorem wd932 : Cond.methodLink RL 75 yX11_keep ∈ tb := tb_k4 (List.mem_of_getElem? (i := 106) rfl) rfl
theorem wd933 : Cond.instanceMethod yX11_keep ∈ tb := tb_k4 (List.mem_of_getElem? (i := 107) rfl) rfl
theorem wd934 : Cond.selects RX11 yX11_keep yX11_keep ∈ tb := tb_k4 (List.mem_of_getElem? (i := 108) rfl) rfl
theorem wd1945 : Cond.methodLink RL 78 yX12_keep ∈ tb := tb_k8 (List.mem_of_getElem? (i := 159) rfl) rfl
theorem wd1946 : Cond.instanceMethod yX12_keep ∈ tb := tb_k8 (List.mem_of_getElem? (i := 160) rfl) rfl
theorem wd1947 : Cond.selects RX12 yX12_keep yX12_keep ∈ tb := tb_k8 (List.mem_of_getElem? (i := 161) rfl) rfl
theorem wd959 : Cond.methodLink RL 79 yX11_undo ∈ tb := tb_k4 (List.mem_of_getElem? (i := 133) rfl) rfl
theorem wd960 : Cond.instanceMethod yX11_undo ∈ tb := tb_k4 (List.mem_of_getElem? (i := 134) rfl) rfl
theorem wd961 : Cond.selects RX11 yX11_undo yX11_undo ∈ tb := tb_k4 (List.mem_of_getElem? (i := 135) rfl) rfl
theorem wd1949 : Cond.methodLink RL 83 yX12_undo ∈ tb := tb_k8 (List.mem_of_getElem? (i := 163) rfl) rfl
theorem wd1950 : Cond.instanceMethod yX12_undo ∈ tb := tb_k8 (List.mem_of_getElem? (i := 164) rfl) rfl
theorem wd1951 : Cond.selects RX12 yX12_undo yX12_undo ∈ tb := tb_k8 (List.mem_of_getElem? (i := 165) rfl) rfl
theorem wd979 : Cond.methodLink RL 84 yX11_judged ∈ tb := tb_k4 (List.mem_of_getElem? (i := 153) rfl) rfl
theorem wd980 : Cond.instanceMethod yX11_judged ∈ tb := tb_k4 (List.mem_of_getElem? (i := 154) rfl) rfl
theorem wd981 : Cond.selects RX11 yX11_judged yX11_judged ∈ tb := tb_k4 (List.mem_of_getElem? (i := 155) rfl) rfl
theorem wd1953 : Cond.methodLink RL 87 yX12_judged ∈ tb := tb_k8 (List.mem_of_getElem? (i := 167) rfl) rfl
theorem wd1954 : Cond.instanceMethod yX12_judged ∈ tb := tb_k8 (List.mem_of_getElem? (i := 168) rfl) rfl
theorem wd1955 : Cond.selects RX12 yX12_judged yX12_judged ∈ tb := tb_k8 (List.mem_of_getElem? (i := 169) rfl) rfl
theorem wd987 : Cond.methodLink RL 88 yX11_chain ∈ tb := tb_k4 (List.mem_of_getElem? (i := 161) rfl) rfl
theorem wd988 : Cond.instanceMethod yX11_chain ∈ tb := tb_k4 (List.mem_of_getElem? (i := 162) rfl) rfl
theorem wd989 : Cond.selects RX11 yX11_chain yX11_chain ∈ tb := tb_k4 (List.mem_of_getElem? (i := 163) rfl) rfl
theorem wd1672 : Cond.methodLink RL 92 yX12_chain ∈ tb := tb_k7 (List.mem_of_getElem? (i := 126) rfl) rfl
theorem wd1673 : Cond.instanceMethod yX12_chain ∈ tb := tb_k7 (List.mem_of_getElem? (i := 127) rfl) rfl
theorem wd1674 : Cond.selects RX12 yX12_chain yX12_chain ∈ tb := tb_k7 (List.mem_of_getElem? (i := 128) rfl) rfl
theorem wd1035 : Cond.methodLink RL 93 yX11_pick ∈ tb := tb_k4 (List.mem_of_getElem? (i := 209) rfl) rfl
theorem wd1036 : Cond.instanceMethod yX11_pick ∈ tb := tb_k4 (List.mem_of_getElem? (i := 210) rfl) rfl
theorem wd1037 : Cond.selects RX11 yX11_pick yX11_pick ∈ tb := tb_k4 (List.mem_of_getElem? (i := 211) rfl) rfl
theorem wd1730 : Cond.methodLink RL 97 yX12_pick ∈ tb := tb_k7 (List.mem_of_getElem? (i := 184) rfl) rfl
theorem wd1731 : Cond.instanceMethod yX12_pick ∈ tb := tb_k7 (List.mem_of_getElem? (i := 185) rfl) rfl
theorem wd1732 : Cond.selects RX12 yX12_pick yX12_pick ∈ tb := tb_k7 (List.mem_of_getElem? (i := 186) rfl) rfl
theorem wd1043 : Cond.methodLink RL 98 yX11_ways ∈ tb := tb_k4 (List.mem_of_getElem? (i := 217) rfl) rfl
theorem wd1044 : Cond.instanceMethod yX11_ways ∈ tb := tb_k4 (List.mem_of_getElem? (i := 218) rfl) rfl
theorem wd1045 : Cond.selects RX11 yX11_ways yX11_ways ∈ tb := tb_k4 (List.mem_of_getElem? (i := 219) rfl) rfl
theorem wd1738 : Cond.methodLink RL 101 yX12_ways ∈ tb := tb_k7 (List.mem_of_getElem? (i := 192) rfl) rfl
theorem wd1739 : Cond.instanceMethod yX12_ways ∈ tb := tb_k7 (List.mem_of_getElem? (i := 193) rfl) rfl
theorem wd1740 : Cond.selects RX12 yX12_ways yX12_ways ∈ tb := tb_k7 (List.mem_of_getElem? (i := 194) rfl) rfl
theorem wd1059 : Cond.methodLink RL 102 yX11_must ∈ tb := tb_k4 (List.mem_of_getElem? (i := 233) rfl) rfl
theorem wd1060 : Cond.instanceMethod yX11_must ∈ tb := tb_k4 (List.mem_of_getElem? (i := 234) rfl) rfl
theorem wd1061 : Cond.selects RX11 yX11_must yX11_must ∈ tb := tb_k4 (List.mem_of_getElem? (i := 235) rfl) rfl
theorem wd1756 : Cond.methodLink RL 105 yX12_must ∈ tb := tb_k7 (List.mem_of_getElem? (i := 210) rfl) rfl
theorem wd1757 : Cond.instanceMethod yX12_must ∈ tb := tb_k7 (List.mem_of_getElem? (i := 211) rfl) rfl
theorem wd1758 : Cond.selects RX12 yX12_must yX12_must ∈ tb := tb_k7 (List.mem_of_getElem? (i := 212) rfl) rfl
theorem wd1075 : Cond.methodLink RL 106 yX11_may ∈ tb := tb_k5 (List.mem_of_getElem? (i := 9) rfl) rfl
theorem wd1076 : Cond.instanceMethod yX11_may ∈ tb := tb_k5 (List.mem_of_getElem? (i := 10) rfl) rfl
theorem wd1077 : Cond.selects RX11 yX11_may yX11_may ∈ tb := tb_k5 (List.mem_of_getElem? (i := 11) rfl) rfl
theorem wd1748 : Cond.methodLink RL 109 yX12_may ∈ tb := tb_k7 (List.mem_of_getElem? (i := 202) rfl) rfl
theorem wd1749 : Cond.instanceMethod yX12_may ∈ tb := tb_k7 (List.mem_of_getElem? (i := 203) rfl) rfl
theorem wd1750 : Cond.selects RX12 yX12_may yX12_may ∈ tb := tb_k7 (List.mem_of_getElem? (i := 204) rfl) rfl
theorem wd1083 : Cond.methodLink RL 110 yX11_bare ∈ tb := tb_k5 (List.mem_of_getElem? (i := 17) rfl) rfl
theorem wd1084 : Cond.instanceMethod yX11_bare ∈ tb := tb_k5 (List.mem_of_getElem? (i := 18) rfl) rfl
theorem wd1085 : Cond.selects RX11 yX11_bare yX11_bare ∈ tb := tb_k5 (List.mem_of_getElem? (i := 19) rfl) rfl
theorem wd1760 : Cond.methodLink RL 113 yX12_bare ∈ tb := tb_k7 (List.mem_of_getElem? (i := 214) rfl) rfl
theorem wd1761 : Cond.instanceMethod yX12_bare ∈ tb := tb_k7 (List.mem_of_getElem? (i := 215) rfl) rfl
theorem wd1762 : Cond.selects RX12 yX12_bare yX12_bare ∈ tb := tb_k7 (List.mem_of_getElem? (i := 216) rfl) rfl
theorem wd1113 : Cond.methodLink RL 114 yX11_strand ∈ tb := tb_k5 (List.mem_of_getElem? (i := 47) rfl) rfl
theorem wd1114 : Cond.instanceMethod yX11_strand ∈ tb := tb_k5 (List.mem_of_getElem? (i := 48) rfl) rfl
theorem wd1115 : Cond.selects RX11 yX11_strand yX11_strand ∈ tb := tb_k5 (List.mem_of_getElem? (i := 49) rfl) rfl
theorem wd1768 : Cond.methodLink RL 117 yX12_strand ∈ tb := tb_k7 (List.mem_of_getElem? (i := 222) rfl) rfl
theorem wd1769 : Cond.instanceMethod yX12_strand ∈ tb := tb_k7 (List.mem_of_getElem? (i := 223) rfl) rfl
theorem wd1770 : Cond.selects RX12 yX12_strand yX12_strand ∈ tb := tb_k7 (List.mem_of_getElem? (i := 224) rfl) rfl
theorem wd1141 : Cond.methodLink RL 118 yX11_under ∈ tb := tb_k5 (List.mem_of_getElem? (i := 75) rfl) rfl
theorem wd1142 : Cond.instanceMethod yX11_under ∈ tb := tb_k5 (List.mem_of_getElem? (i := 76) rfl) rfl
theorem wd1143 : Cond.selects RX11 yX11_under yX11_under ∈ tb := tb_k5 (List.mem_of_getElem? (i := 77) rfl) rfl
theorem wd1780 : Cond.methodLink RL 121 yX12_under ∈ tb := tb_k7 (List.mem_of_getElem? (i := 234) rfl) rfl
theorem wd1781 : Cond.instanceMethod yX12_under ∈ tb := tb_k7 (List.mem_of_getElem? (i := 235) rfl) rfl
theorem wd1782 : Cond.selects RX12 yX12_under yX12_under ∈ tb := tb_k7 (List.mem_of_getElem? (i := 236) rfl) rfl
theorem wd1150 : Cond.methodLink RL 122 yX11_how ∈ tb := tb_k5 (List.mem_of_getElem? (i := 84) rfl) rfl
theorem wd1151 : Cond.instanceMethod yX11_how ∈ tb := tb_k5 (List.mem_of_getElem? (i := 85) rfl) rfl
theorem wd1152 : Cond.selects RX11 yX11_how yX11_how ∈ tb := tb_k5 (List.mem_of_getElem? (i := 86) rfl) rfl
theorem wd1784 : Cond.methodLink RL 125 yX12_how ∈ tb := tb_k7 (List.mem_of_getElem? (i := 238) rfl) rfl
theorem wd1785 : Cond.instanceMethod yX12_how ∈ tb := tb_k7 (List.mem_of_getElem? (i := 239) rfl) rfl
theorem wd1786 : Cond.selects RX12 yX12_how yX12_how ∈ tb := tb_k8 (List.mem_of_getElem? (i := 0) rfl) rfl
theorem wd1158 : Cond.methodLink RL 126 yX11_best ∈ tb := tb_k5 (List.mem_of_getElem? (i := 92) rfl) rfl
theorem wd1159 : Cond.instanceMethod yX11_best ∈ tb := tb_k5 (List.mem_of_getElem? (i := 93) rfl) rfl
theorem wd1160 : Cond.selects RX11 yX11_best yX11_best ∈ tb := tb_k5 (List.mem_of_getElem? (i := 94) rfl) rfl
theorem wd1791 : Cond.methodLink RL 129 yX12_best ∈ tb := tb_k8 (List.mem_of_getElem? (i := 5) rfl) rfl
theorem wd1792 : Cond.instanceMethod yX12_best ∈ tb := tb_k8 (List.mem_of_getElem? (i := 6) rfl) rfl
theorem wd1793 : Cond.selects RX12 yX12_best yX12_best ∈ tb := tb_k8 (List.mem_of_getElem? (i := 7) rfl) rfl
theorem wd1166 : Cond.methodLink RL 130 yX11_near ∈ tb := tb_k5 (List.mem_of_getElem? (i := 100) rfl) rfl
theorem wd1167 : Cond.instanceMethod yX11_near ∈ tb := tb_k5 (List.mem_of_getElem? (i := 101) rfl) rfl
theorem wd1168 : Cond.selects RX11 yX11_near yX11_near ∈ tb := tb_k5 (List.mem_of_getElem? (i := 102) rfl) rfl
theorem wd1795 : Cond.methodLink RL 133 yX12_near ∈ tb := tb_k8 (List.mem_of_getElem? (i := 9) rfl) rfl
theorem wd1796 : Cond.instanceMethod yX12_near ∈ tb := tb_k8 (List.mem_of_getElem? (i := 10) rfl) rfl
theorem wd1797 : Cond.selects RX12 yX12_near yX12_near ∈ tb := tb_k8 (List.mem_of_getElem? (i := 11) rfl) rfl
theorem wd1087 : Cond.methodLink RL 134 yX11_piles ∈ tb := tb_k5 (List.mem_of_getElem? (i := 21) rfl) rfl
theorem wd1088 : Cond.instanceMethod yX11_piles ∈ tb := tb_k5 (List.mem_of_getElem? (i := 22) rfl) rfl
theorem wd1089 : Cond.selects RX11 yX11_piles yX11_piles ∈ tb := tb_k5 (List.mem_of_getElem? (i := 23) rfl) rfl
theorem wd1799 : Cond.methodLink RL 137 yX12_piles ∈ tb := tb_k8 (List.mem_of_getElem? (i := 13) rfl) rfl
theorem wd1800 : Cond.instanceMethod yX12_piles ∈ tb := tb_k8 (List.mem_of_getElem? (i := 14) rfl) rfl
theorem wd1801 : Cond.selects RX12 yX12_piles yX12_piles ∈ tb := tb_k8 (List.mem_of_getElem? (i := 15) rfl) rfl
theorem wd1097 : Cond.methodLink RL 138 yX11_shape ∈ tb := tb_k5 (List.mem_of_getElem? (i := 31) rfl) rfl
theorem wd1098 : Cond.instanceMethod yX11_shape ∈ tb := tb_k5 (List.mem_of_getElem? (i := 32) rfl) rfl
theorem wd1099 : Cond.selects RX11 yX11_shape yX11_shape ∈ tb := tb_k5 (List.mem_of_getElem? (i := 33) rfl) rfl
theorem wd1803 : Cond.methodLink RL 141 yX12_shape ∈ tb := tb_k8 (List.mem_of_getElem? (i := 17) rfl) rfl
theorem wd1804 : Cond.instanceMethod yX12_shape ∈ tb := tb_k8 (List.mem_of_getElem? (i := 18) rfl) rfl
theorem wd1805 : Cond.selects RX12 yX12_shape yX12_shape ∈ tb := tb_k8 (List.mem_of_getElem? (i := 19) rfl) rfl
theorem wd1196 : Cond.methodLink RL 142 yX11_ends ∈ tb := tb_k5 (List.mem_of_getElem? (i := 130) rfl) rfl
theorem wd1197 : Cond.instanceMethod yX11_ends ∈ tb := tb_k5 (List.mem_of_getElem? (i := 131) rfl) rfl
theorem wd1198 : Cond.selects RX11 yX11_ends yX11_ends ∈ tb := tb_k5 (List.mem_of_getElem? (i := 132) rfl) rfl
theorem wd1843 : Cond.methodLink RL 145 yX12_ends ∈ tb := tb_k8 (List.mem_of_getElem? (i := 57) rfl) rfl
theorem wd1844 : Cond.instanceMethod yX12_ends ∈ tb := tb_k8 (List.mem_of_getElem? (i := 58) rfl) rfl
theorem wd1845 : Cond.selects RX12 yX12_ends yX12_ends ∈ tb := tb_k8 (List.mem_of_getElem? (i := 59) rfl) rfl
theorem wd1204 : Cond.methodLink RL 146 yX11_counts ∈ tb := tb_k5 (List.mem_of_getElem? (i := 138) rfl) rfl
theorem wd1205 : Cond.instanceMethod yX11_counts ∈ tb := tb_k5 (List.mem_of_getElem? (i := 139) rfl) rfl
theorem wd1206 : Cond.selects RX11 yX11_counts yX11_counts ∈ tb := tb_k5 (List.mem_of_getElem? (i := 140) rfl) rfl
theorem wd1847 : Cond.methodLink RL 149 yX12_counts ∈ tb := tb_k8 (List.mem_of_getElem? (i := 61) rfl) rfl
theorem wd1848 : Cond.instanceMethod yX12_counts ∈ tb := tb_k8 (List.mem_of_getElem? (i := 62) rfl) rfl
theorem wd1849 : Cond.selects RX12 yX12_counts yX12_counts ∈ tb := tb_k8 (List.mem_of_getElem? (i := 63) rfl) rfl
theorem wd1213 : Cond.methodLink RL 150 yX11_compose ∈ tb := tb_k5 (List.mem_of_getElem? (i := 147) rfl) rfl
theorem wd1214 : Cond.instanceMethod yX11_compose ∈ tb := tb_k5 (List.mem_of_getElem? (i := 148) rfl) rfl
theorem wd1215 : Cond.selects RX11 yX11_compose yX11_compose ∈ tb := tb_k5 (List.mem_of_getElem? (i := 149) rfl) rfl
theorem wd1858 : Cond.methodLink RL 153 yX12_compose ∈ tb := tb_k8 (List.mem_of_getElem? (i := 72) rfl) rfl
theorem wd1859 : Cond.instanceMethod yX12_compose ∈ tb := tb_k8 (List.mem_of_getElem? (i := 73) rfl) rfl
theorem wd1860 : Cond.selects RX12 yX12_compose yX12_compose ∈ tb := tb_k8 (List.mem_of_getElem? (i := 74) rfl) rfl
theorem wd1219 : Cond.methodLink RL 154 yX11_power ∈ tb := tb_k5 (List.mem_of_getElem? (i := 153) rfl) rfl
theorem wd1220 : Cond.instanceMethod yX11_power ∈ tb := tb_k5 (List.mem_of_getElem? (i := 154) rfl) rfl
theorem wd1221 : Cond.selects RX11 yX11_power yX11_power ∈ tb := tb_k5 (List.mem_of_getElem? (i := 155) rfl) rfl
theorem wd1873 : Cond.methodLink RL 157 yX12_power ∈ tb := tb_k8 (List.mem_of_getElem? (i := 87) rfl) rfl
theorem wd1874 : Cond.instanceMethod yX12_power ∈ tb := tb_k8 (List.mem_of_getElem? (i := 88) rfl) rfl
theorem wd1875 : Cond.selects RX12 yX12_power yX12_power ∈ tb := tb_k8 (List.mem_of_getElem? (i := 89) rfl) rfl
theorem wd1233 : Cond.methodLink RL 158 yX11_settles ∈ tb := tb_k5 (List.mem_of_getElem? (i := 167) rfl) rfl
theorem wd1234 : Cond.instanceMethod yX11_settles ∈ tb := tb_k5 (List.mem_of_getElem? (i := 168) rfl) rfl
theorem wd1235 : Cond.selects RX11 yX11_settles yX11_settles ∈ tb := tb_k5 (List.mem_of_getElem? (i := 169) rfl) rfl
theorem wd1881 : Cond.methodLink RL 161 yX12_settles ∈ tb := tb_k8 (List.mem_of_getElem? (i := 95) rfl) rfl
theorem wd1882 : Cond.instanceMethod yX12_settles ∈ tb := tb_k8 (List.mem_of_getElem? (i := 96) rfl) rfl
theorem wd1883 : Cond.selects RX12 yX12_settles yX12_settles ∈ tb := tb_k8 (List.mem_of_getElem? (i := 97) rfl) rfl
theorem wd1237 : Cond.methodLink RL 162 yX11_knit ∈ tb := tb_k5 (List.mem_of_getElem? (i := 171) rfl) rfl
theorem wd1238 : Cond.instanceMethod yX11_knit ∈ tb := tb_k5 (List.mem_of_getElem? (i := 172) rfl) rfl
theorem wd1239 : Cond.selects RX11 yX11_knit yX11_knit ∈ tb := tb_k5 (List.mem_of_getElem? (i := 173) rfl) rfl
theorem wd1885 : Cond.methodLink RL 165 yX12_knit ∈ tb := tb_k8 (List.mem_of_getElem? (i := 99) rfl) rfl
theorem wd1886 : Cond.instanceMethod yX12_knit ∈ tb := tb_k8 (List.mem_of_getElem? (i := 100) rfl) rfl
theorem wd1887 : Cond.selects RX12 yX12_knit yX12_knit ∈ tb := tb_k8 (List.mem_of_getElem? (i := 101) rfl) rfl
theorem wd1249 : Cond.methodLink RL 166 yX11_below ∈ tb := tb_k5 (List.mem_of_getElem? (i := 183) rfl) rfl
theorem wd1250 : Cond.instanceMethod yX11_below ∈ tb := tb_k5 (List.mem_of_getElem? (i := 184) rfl) rfl
theorem wd1251 : Cond.selects RX11 yX11_below yX11_below ∈ tb := tb_k5 (List.mem_of_getElem? (i := 185) rfl) rfl
theorem wd1889 : Cond.methodLink RL 169 yX12_below ∈ tb := tb_k8 (List.mem_of_getElem? (i := 103) rfl) rfl
theorem wd1890 : Cond.instanceMethod yX12_below ∈ tb := tb_k8 (List.mem_of_getElem? (i := 104) rfl) rfl
theorem wd1891 : Cond.selects RX12 yX12_below yX12_below ∈ tb := tb_k8 (List.mem_of_getElem? (i := 105) rfl) rfl
theorem wd1174 : Cond.methodLink RL 170 yX11_common ∈ tb := tb_k5 (List.mem_of_getElem? (i := 108) rfl) rfl
theorem wd1175 : Cond.instanceMethod yX11_common ∈ tb := tb_k5 (List.mem_of_getElem? (i := 109) rfl) rfl
theorem wd1176 : Cond.selects RX11 yX11_common yX11_common ∈ tb := tb_k5 (List.mem_of_getElem? (i := 110) rfl) rfl
theorem wd1811 : Cond.methodLink RL 173 yX12_common ∈ tb := tb_k8 (List.mem_of_getElem? (i := 25) rfl) rfl
theorem wd1812 : Cond.instanceMethod yX12_common ∈ tb := tb_k8 (List.mem_of_getElem? (i := 26) rfl) rfl
theorem wd1813 : Cond.selects RX12 yX12_common yX12_common ∈ tb := tb_k8 (List.mem_of_getElem? (i := 27) rfl) rfl
theorem wd1192 : Cond.methodLink RL 174 yX11_meets ∈ tb := tb_k5 (List.mem_of_getElem? (i := 126) rfl) rfl
theorem wd1193 : Cond.instanceMethod yX11_meets ∈ tb := tb_k5 (List.mem_of_getElem? (i := 127) rfl) rfl
theorem wd1194 : Cond.selects RX11 yX11_meets yX11_meets ∈ tb := tb_k5 (List.mem_of_getElem? (i := 128) rfl) rfl
theorem wd1819 : Cond.methodLink RL 177 yX12_meets ∈ tb := tb_k8 (List.mem_of_getElem? (i := 33) rfl) rfl
theorem wd1820 : Cond.instanceMethod yX12_meets ∈ tb := tb_k8 (List.mem_of_getElem? (i := 34) rfl) rfl
theorem wd1821 : Cond.selects RX12 yX12_meets yX12_meets ∈ tb := tb_k8 (List.mem_of_getElem? (i := 35) rfl) rfl
theorem wd1257 : Cond.methodLink RL 178 yX11_see ∈ tb := tb_k5 (List.mem_of_getElem? (i := 191) rfl) rfl
theorem wd1258 : Cond.instanceMethod yX11_see ∈ tb := tb_k5 (List.mem_of_getElem? (i := 192) rfl) rfl
theorem wd1259 : Cond.selects RX11 yX11_see yX11_see ∈ tb := tb_k5 (List.mem_of_getElem? (i := 193) rfl) rfl
theorem wd1961 : Cond.methodLink RL 182 yX12_see ∈ tb := tb_k8 (List.mem_of_getElem? (i := 175) rfl) rfl
theorem wd1962 : Cond.instanceMethod yX12_see ∈ tb := tb_k8 (List.mem_of_getElem? (i := 176) rfl) rfl
theorem wd1963 : Cond.selects RX12 yX12_see yX12_see ∈ tb := tb_k8 (List.mem_of_getElem? (i := 177) rfl) rfl
theorem wd1265 : Cond.methodLink RL 183 yX11_fits ∈ tb := tb_k5 (List.mem_of_getElem? (i := 199) rfl) rfl
theorem wd1266 : Cond.instanceMethod yX11_fits ∈ tb := tb_k5 (List.mem_of_getElem? (i := 200) rfl) rfl
theorem wd1267 : Cond.selects RX11 yX11_fits yX11_fits ∈ tb := tb_k5 (List.mem_of_getElem? (i := 201) rfl) rfl
theorem wd1965 : Cond.methodLink RL 186 yX12_fits ∈ tb := tb_k8 (List.mem_of_getElem? (i := 179) rfl) rfl
theorem wd1966 : Cond.instanceMethod yX12_fits ∈ tb := tb_k8 (List.mem_of_getElem? (i := 180) rfl) rfl
theorem wd1967 : Cond.selects RX12 yX12_fits yX12_fits ∈ tb := tb_k8 (List.mem_of_getElem? (i := 181) rfl) rfl
theorem wd1277 : Cond.methodLink RL 187 yX11_first ∈ tb := tb_k5 (List.mem_of_getElem? (i := 211) rfl) rfl
theorem wd1278 : Cond.instanceMethod yX11_first ∈ tb := tb_k5 (List.mem_of_getElem? (i := 212) rfl) rfl
theorem wd1279 : Cond.selects RX11 yX11_first yX11_first ∈ tb := tb_k5 (List.mem_of_getElem? (i := 213) rfl) rfl
theorem wd1977 : Cond.methodLink RL 190 yX12_first ∈ tb := tb_k8 (List.mem_of_getElem? (i := 191) rfl) rfl
theorem wd1978 : Cond.instanceMethod yX12_first ∈ tb := tb_k8 (List.mem_of_getElem? (i := 192) rfl) rfl
theorem wd1979 : Cond.selects RX12 yX12_first yX12_first ∈ tb := tb_k8 (List.mem_of_getElem? (i := 193) rfl) rfl
theorem wd1281 : Cond.methodLink RL 191 yX11_ask ∈ tb := tb_k5 (List.mem_of_getElem? (i := 215) rfl) rfl
theorem wd1282 : Cond.instanceMethod yX11_ask ∈ tb := tb_k5 (List.mem_of_getElem? (i := 216) rfl) rfl
theorem wd1283 : Cond.selects RX11 yX11_ask yX11_ask ∈ tb := tb_k5 (List.mem_of_getElem? (i := 217) rfl) rfl
theorem wd1981 : Cond.methodLink RL 194 yX12_ask ∈ tb := tb_k8 (List.mem_of_getElem? (i := 195) rfl) rfl
theorem wd1982 : Cond.instanceMethod yX12_ask ∈ tb := tb_k8 (List.mem_of_getElem? (i := 196) rfl) rfl
theorem wd1983 : Cond.selects RX12 yX12_ask yX12_ask ∈ tb := tb_k8 (List.mem_of_getElem? (i := 197) rfl) rfl
theorem wd1286 : Cond.methodLink RL 195 yX11_drawn ∈ tb := tb_k5 (List.mem_of_getElem? (i := 220) rfl) rfl
theorem wd1287 : Cond.instanceMethod yX11_drawn ∈ tb := tb_k5 (List.mem_of_getElem? (i := 221) rfl) rfl
theorem wd1288 : Cond.selects RX11 yX11_drawn yX11_drawn ∈ tb := tb_k5 (List.mem_of_getElem? (i := 222) rfl) rfl
theorem wd1985 : Cond.methodLink RL 198 yX12_drawn ∈ tb := tb_k8 (List.mem_of_getElem? (i := 199) rfl) rfl
theorem wd1986 : Cond.instanceMethod yX12_drawn ∈ tb := tb_k8 (List.mem_of_getElem? (i := 200) rfl) rfl
theorem wd1987 : Cond.selects RX12 yX12_drawn yX12_drawn ∈ tb := tb_k8 (List.mem_of_getElem? (i := 201) rfl) rfl
theorem wd975 : Cond.methodLink RL 199 yX11_mark ∈ tb := tb_k4 (List.mem_of_getElem? (i := 149) rfl) rfl
theorem wd976 : Cond.instanceMethod yX11_mark ∈ tb := tb_k4 (List.mem_of_getElem? (i := 150) rfl) rfl
theorem wd977 : Cond.selects RX11 yX11_mark yX11_mark ∈ tb := tb_k4 (List.mem_of_getElem? (i := 151) rfl) rfl
theorem wd1997 : Cond.methodLink RL 203 yX12_mark ∈ tb := tb_k8 (List.mem_of_getElem? (i := 211) rfl) rfl
theorem wd1998 : Cond.instanceMethod yX12_mark ∈ tb := tb_k8 (List.mem_of_getElem? (i := 212) rfl) rfl
theorem wd1999 : Cond.selects RX12 yX12_mark yX12_mark ∈ tb := tb_k8 (List.mem_of_getElem? (i := 213) rfl) rfl
theorem wd875 : Cond.methodLink RL 204 yX11_count ∈ tb := tb_k4 (List.mem_of_getElem? (i := 49) rfl) rfl
theorem wd876 : Cond.instanceMethod yX11_count ∈ tb := tb_k4 (List.mem_of_getElem? (i := 50) rfl) rfl
theorem wd877 : Cond.selects RX11 yX11_count yX11_count ∈ tb := tb_k4 (List.mem_of_getElem? (i := 51) rfl) rfl
theorem wd2001 : Cond.methodLink RL 207 yX12_count ∈ tb := tb_k8 (List.mem_of_getElem? (i := 215) rfl) rfl
theorem wd2002 : Cond.instanceMethod yX12_count ∈ tb := tb_k8 (List.mem_of_getElem? (i := 216) rfl) rfl
theorem wd2003 : Cond.selects RX12 yX12_count yX12_count ∈ tb := tb_k8 (List.mem_of_getElem? (i := 217) rfl) rfl
theorem wd1381 : Cond.methodLink RX12 7 yX12_lay ∈ tb := tb_k6 (List.mem_of_getElem? (i := 75) rfl) rfl
theorem wd1383 : Cond.instanceMethod yX12_lay ∈ tb := tb_k6 (List.mem_of_getElem? (i := 77) rfl) rfl
theorem wd39 : Cond.selects RX12 yX12_lay yX12_lay ∈ tb := tb_p3 (List.mem_of_getElem? (i := 7) rfl)
theorem wd1390 : Cond.methodLink RX12 18 objectInit ∈ tb := tb_k6 (List.mem_of_getElem? (i := 84) rfl) rfl
theorem wd1410 : Cond.methodLink RX12 154 yX12_standsAsAlways ∈ tb := tb_k6 (List.mem_of_getElem? (i := 104) rfl) rfl
theorem wd1412 : Cond.instanceMethod yX12_standsAsAlways ∈ tb := tb_k6 (List.mem_of_getElem? (i := 106) rfl) rfl
theorem wd40 : Cond.selects RX12 yX12_standsAsAlways yX12_standsAsAlways ∈ tb := tb_p3 (List.mem_of_getElem? (i := 8) rfl)
theorem wd1414 : Cond.methodLink RX12 158 yX12_begins ∈ tb := tb_k6 (List.mem_of_getElem? (i := 108) rfl) rfl
theorem wd1416 : Cond.instanceMethod yX12_begins ∈ tb := tb_k6 (List.mem_of_getElem? (i := 110) rfl) rfl
theorem wd41 : Cond.selects RX12 yX12_begins yX12_begins ∈ tb := tb_p3 (List.mem_of_getElem? (i := 9) rfl)
theorem wd1561 : Cond.methodLink RX12 161 yX12_isLetter ∈ tb := tb_k7 (List.mem_of_getElem? (i := 15) rfl) rfl
theorem wd1562 : Cond.static yX12_isLetter ∈ tb := tb_k7 (List.mem_of_getElem? (i := 16) rfl) rfl
theorem wd1565 : Cond.methodLink RX12 170 yX12_rank ∈ tb := tb_k7 (List.mem_of_getElem? (i := 19) rfl) rfl
theorem wd1566 : Cond.static yX12_rank ∈ tb := tb_k7 (List.mem_of_getElem? (i := 20) rfl) rfl
theorem wd1568 : Cond.methodLink RX12 174 yX12_isDigit ∈ tb := tb_k7 (List.mem_of_getElem? (i := 22) rfl) rfl
theorem wd1569 : Cond.static yX12_isDigit ∈ tb := tb_k7 (List.mem_of_getElem? (i := 23) rfl) rfl
theorem wd1573 : Cond.methodLink RX12 181 yX12_isSignOf ∈ tb := tb_k7 (List.mem_of_getElem? (i := 27) rfl) rfl
theorem wd1574 : Cond.static yX12_isSignOf ∈ tb := tb_k7 (List.mem_of_getElem? (i := 28) rfl) rfl
theorem wd1624 : Cond.methodLink RX12 190 yX12_isSign ∈ tb := tb_k7 (List.mem_of_getElem? (i := 78) rfl) rfl
theorem wd1626 : Cond.instanceMethod yX12_isSign ∈ tb := tb_k7 (List.mem_of_getElem? (i := 80) rfl) rfl
theorem wd57 : Cond.selects RX12 yX12_isSign yX12_isSign ∈ tb := tb_p4 (List.mem_of_getElem? (i := 9) rfl)
theorem wd1596 : Cond.methodLink RX12 193 yX12_wrong ∈ tb := tb_k7 (List.mem_of_getElem? (i := 50) rfl) rfl
theorem wd1598 : Cond.instanceMethod yX12_wrong ∈ tb := tb_k7 (List.mem_of_getElem? (i := 52) rfl) rfl
theorem wd50 : Cond.selects RX12 yX12_wrong yX12_wrong ∈ tb := tb_p4 (List.mem_of_getElem? (i := 2) rfl)
theorem wd1580 : Cond.methodLink RX12 196 yX12_isWord ∈ tb := tb_k7 (List.mem_of_getElem? (i := 34) rfl) rfl
theorem wd1582 : Cond.instanceMethod yX12_isWord ∈ tb := tb_k7 (List.mem_of_getElem? (i := 36) rfl) rfl
theorem wd46 : Cond.selects RX12 yX12_isWord yX12_isWord ∈ tb := tb_p3 (List.mem_of_getElem? (i := 14) rfl)
theorem wd1648 : Cond.methodLink RX12 199 yX12_hasWord ∈ tb := tb_k7 (List.mem_of_getElem? (i := 102) rfl) rfl
theorem wd1650 : Cond.instanceMethod yX12_hasWord ∈ tb := tb_k7 (List.mem_of_getElem? (i := 104) rfl) rfl
theorem wd63 : Cond.selects RX12 yX12_hasWord yX12_hasWord ∈ tb := tb_p4 (List.mem_of_getElem? (i := 15) rfl)
theorem wd1604 : Cond.methodLink RX12 202 yX12_wordHere ∈ tb := tb_k7 (List.mem_of_getElem? (i := 58) rfl) rfl
theorem wd1606 : Cond.instanceMethod yX12_wordHere ∈ tb := tb_k7 (List.mem_of_getElem? (i := 60) rfl) rfl
theorem wd52 : Cond.selects RX12 yX12_wordHere yX12_wordHere ∈ tb := tb_p4 (List.mem_of_getElem? (i := 4) rfl)
theorem wd1600 : Cond.methodLink RX12 206 yX12_isName ∈ tb := tb_k7 (List.mem_of_getElem? (i := 54) rfl) rfl
theorem wd1602 : Cond.instanceMethod yX12_isName ∈ tb := tb_k7 (List.mem_of_getElem? (i := 56) rfl) rfl
theorem wd51 : Cond.selects RX12 yX12_isName yX12_isName ∈ tb := tb_p4 (List.mem_of_getElem? (i := 3) rfl)
theorem wd1608 : Cond.methodLink RX12 210 yX12_nameAt ∈ tb := tb_k7 (List.mem_of_getElem? (i := 62) rfl) rfl
theorem wd1610 : Cond.instanceMethod yX12_nameAt ∈ tb := tb_k7 (List.mem_of_getElem? (i := 64) rfl) rfl
theorem wd53 : Cond.selects RX12 yX12_nameAt yX12_nameAt ∈ tb := tb_p4 (List.mem_of_getElem? (i := 5) rfl)
theorem wd1557 : Cond.methodLink RX12 213 yX12_cutAll ∈ tb := tb_k7 (List.mem_of_getElem? (i := 11) rfl) rfl
theorem wd1559 : Cond.instanceMethod yX12_cutAll ∈ tb := tb_k7 (List.mem_of_getElem? (i := 13) rfl) rfl
theorem wd44 : Cond.selects RX12 yX12_cutAll yX12_cutAll ∈ tb := tb_p3 (List.mem_of_getElem? (i := 12) rfl)
theorem wd1576 : Cond.methodLink RX12 219 yX12_readLine ∈ tb := tb_k7 (List.mem_of_getElem? (i := 30) rfl) rfl
theorem wd1578 : Cond.instanceMethod yX12_readLine ∈ tb := tb_k7 (List.mem_of_getElem? (i := 32) rfl) rfl
theorem wd45 : Cond.selects RX12 yX12_readLine yX12_readLine ∈ tb := tb_p3 (List.mem_of_getElem? (i := 13) rfl)
theorem wd1660 : Cond.methodLink RX12 222 yX12_takeSign ∈ tb := tb_k7 (List.mem_of_getElem? (i := 114) rfl) rfl
theorem wd1662 : Cond.instanceMethod yX12_takeSign ∈ tb := tb_k7 (List.mem_of_getElem? (i := 116) rfl) rfl
theorem wd66 : Cond.selects RX12 yX12_takeSign yX12_takeSign ∈ tb := tb_p5 (List.mem_of_getElem? (i := 2) rfl)
theorem wd1588 : Cond.methodLink RX12 225 yX12_read ∈ tb := tb_k7 (List.mem_of_getElem? (i := 42) rfl) rfl
theorem wd1590 : Cond.instanceMethod yX12_read ∈ tb := tb_k7 (List.mem_of_getElem? (i := 44) rfl) rfl
theorem wd48 : Cond.selects RX12 yX12_read yX12_read ∈ tb := tb_p4 (List.mem_of_getElem? (i := 0) rfl)
theorem wd1584 : Cond.methodLink RX12 228 yX12_readRow ∈ tb := tb_k7 (List.mem_of_getElem? (i := 38) rfl) rfl
theorem wd1586 : Cond.instanceMethod yX12_readRow ∈ tb := tb_k7 (List.mem_of_getElem? (i := 40) rfl) rfl
theorem wd47 : Cond.selects RX12 yX12_readRow yX12_readRow ∈ tb := tb_p3 (List.mem_of_getElem? (i := 15) rfl)
theorem wd1620 : Cond.methodLink RX12 231 yX12_readBraid ∈ tb := tb_k7 (List.mem_of_getElem? (i := 74) rfl) rfl
theorem wd1622 : Cond.instanceMethod yX12_readBraid ∈ tb := tb_k7 (List.mem_of_getElem? (i := 76) rfl) rfl
theorem wd56 : Cond.selects RX12 yX12_readBraid yX12_readBraid ∈ tb := tb_p4 (List.mem_of_getElem? (i := 8) rfl)
theorem wd1628 : Cond.methodLink RX12 234 yX12_allOf ∈ tb := tb_k7 (List.mem_of_getElem? (i := 82) rfl) rfl
theorem wd1630 : Cond.instanceMethod yX12_allOf ∈ tb := tb_k7 (List.mem_of_getElem? (i := 84) rfl) rfl
theorem wd58 : Cond.selects RX12 yX12_allOf yX12_allOf ∈ tb := tb_p4 (List.mem_of_getElem? (i := 10) rfl)
theorem wd1652 : Cond.methodLink RX12 237 yX12_emit ∈ tb := tb_k7 (List.mem_of_getElem? (i := 106) rfl) rfl
theorem wd1654 : Cond.instanceMethod yX12_emit ∈ tb := tb_k7 (List.mem_of_getElem? (i := 108) rfl) rfl
theorem wd64 : Cond.selects RX12 yX12_emit yX12_emit ∈ tb := tb_p5 (List.mem_of_getElem? (i := 0) rfl)
theorem wd1592 : Cond.methodLink RX12 241 yX12_readName ∈ tb := tb_k7 (List.mem_of_getElem? (i := 46) rfl) rfl
theorem wd1594 : Cond.instanceMethod yX12_readName ∈ tb := tb_k7 (List.mem_of_getElem? (i := 48) rfl) rfl
theorem wd49 : Cond.selects RX12 yX12_readName yX12_readName ∈ tb := tb_p4 (List.mem_of_getElem? (i := 1) rfl)
theorem wd1612 : Cond.methodLink RX12 244 yX12_takeOne ∈ tb := tb_k7 (List.mem_of_getElem? (i := 66) rfl) rfl
theorem wd1614 : Cond.instanceMethod yX12_takeOne ∈ tb := tb_k7 (List.mem_of_getElem? (i := 68) rfl) rfl
theorem wd54 : Cond.selects RX12 yX12_takeOne yX12_takeOne ∈ tb := tb_p4 (List.mem_of_getElem? (i := 6) rfl)
theorem wd1616 : Cond.methodLink RX12 247 yX12_takeNumber ∈ tb := tb_k7 (List.mem_of_getElem? (i := 70) rfl) rfl
theorem wd1618 : Cond.instanceMethod yX12_takeNumber ∈ tb := tb_k7 (List.mem_of_getElem? (i := 72) rfl) rfl
theorem wd55 : Cond.selects RX12 yX12_takeNumber yX12_takeNumber ∈ tb := tb_p4 (List.mem_of_getElem? (i := 7) rfl)
theorem wd1668 : Cond.methodLink RX12 250 yX12_takeTold ∈ tb := tb_k7 (List.mem_of_getElem? (i := 122) rfl) rfl
theorem wd1670 : Cond.instanceMethod yX12_takeTold ∈ tb := tb_k7 (List.mem_of_getElem? (i := 124) rfl) rfl
theorem wd67 : Cond.selects RX12 yX12_takeTold yX12_takeTold ∈ tb := tb_p5 (List.mem_of_getElem? (i := 3) rfl)
theorem wd1632 : Cond.methodLink RX12 253 yX12_test ∈ tb := tb_k7 (List.mem_of_getElem? (i := 86) rfl) rfl
theorem wd1634 : Cond.instanceMethod yX12_test ∈ tb := tb_k7 (List.mem_of_getElem? (i := 88) rfl) rfl
theorem wd59 : Cond.selects RX12 yX12_test yX12_test ∈ tb := tb_p4 (List.mem_of_getElem? (i := 11) rfl)
theorem wd1636 : Cond.methodLink RX12 256 yX12_sums ∈ tb := tb_k7 (List.mem_of_getElem? (i := 90) rfl) rfl
theorem wd1638 : Cond.instanceMethod yX12_sums ∈ tb := tb_k7 (List.mem_of_getElem? (i := 92) rfl) rfl
theorem wd60 : Cond.selects RX12 yX12_sums yX12_sums ∈ tb := tb_p4 (List.mem_of_getElem? (i := 12) rfl)
theorem wd1656 : Cond.methodLink RX12 259 yX12_hasSign ∈ tb := tb_k7 (List.mem_of_getElem? (i := 110) rfl) rfl
theorem wd1658 : Cond.instanceMethod yX12_hasSign ∈ tb := tb_k7 (List.mem_of_getElem? (i := 112) rfl) rfl
theorem wd65 : Cond.selects RX12 yX12_hasSign yX12_hasSign ∈ tb := tb_p5 (List.mem_of_getElem? (i := 1) rfl)
theorem wd1640 : Cond.methodLink RX12 262 yX12_products ∈ tb := tb_k7 (List.mem_of_getElem? (i := 94) rfl) rfl
theorem wd1642 : Cond.instanceMethod yX12_products ∈ tb := tb_k7 (List.mem_of_getElem? (i := 96) rfl) rfl
theorem wd61 : Cond.selects RX12 yX12_products yX12_products ∈ tb := tb_p4 (List.mem_of_getElem? (i := 13) rfl)
theorem wd1644 : Cond.methodLink RX12 265 yX12_takePart ∈ tb := tb_k7 (List.mem_of_getElem? (i := 98) rfl) rfl
theorem wd1646 : Cond.instanceMethod yX12_takePart ∈ tb := tb_k7 (List.mem_of_getElem? (i := 100) rfl) rfl
theorem wd62 : Cond.selects RX12 yX12_takePart yX12_takePart ∈ tb := tb_p4 (List.mem_of_getElem? (i := 14) rfl)
theorem wd1711 : Cond.methodLink RX12 268 yX12_worked ∈ tb := tb_k7 (List.mem_of_getElem? (i := 165) rfl) rfl
theorem wd1712 : Cond.static yX12_worked ∈ tb := tb_k7 (List.mem_of_getElem? (i := 166) rfl) rfl
theorem wd1422 : Cond.methodLink RX12 272 yX12_rows ∈ tb := tb_k6 (List.mem_of_getElem? (i := 116) rfl) rfl
theorem wd1424 : Cond.instanceMethod yX12_rows ∈ tb := tb_k6 (List.mem_of_getElem? (i := 118) rfl) rfl
theorem wd43 : Cond.selects RX12 yX12_rows yX12_rows ∈ tb := tb_p3 (List.mem_of_getElem? (i := 11) rfl)
theorem wd1418 : Cond.methodLink RX12 276 yX12_starts ∈ tb := tb_k6 (List.mem_of_getElem? (i := 112) rfl) rfl
theorem wd1420 : Cond.instanceMethod yX12_starts ∈ tb := tb_k6 (List.mem_of_getElem? (i := 114) rfl) rfl
theorem wd42 : Cond.selects RX12 yX12_starts yX12_starts ∈ tb := tb_p3 (List.mem_of_getElem? (i := 10) rfl)
theorem wd1925 : Cond.methodLink RX12 285 yX12_moves ∈ tb := tb_k8 (List.mem_of_getElem? (i := 139) rfl) rfl
theorem wd1927 : Cond.instanceMethod yX12_moves ∈ tb := tb_k8 (List.mem_of_getElem? (i := 141) rfl) rfl
theorem wd100 : Cond.selects RX12 yX12_moves yX12_moves ∈ tb := tb_p7 (List.mem_of_getElem? (i := 4) rfl)
theorem wd1680 : Cond.methodLink RX12 289 yX12_isRow ∈ tb := tb_k7 (List.mem_of_getElem? (i := 134) rfl) rfl
theorem wd1682 : Cond.instanceMethod yX12_isRow ∈ tb := tb_k7 (List.mem_of_getElem? (i := 136) rfl) rfl
theorem wd69 : Cond.selects RX12 yX12_isRow yX12_isRow ∈ tb := tb_p5 (List.mem_of_getElem? (i := 5) rfl)
theorem wd1684 : Cond.methodLink RX12 292 yX12_manyOf ∈ tb := tb_k7 (List.mem_of_getElem? (i := 138) rfl) rfl
theorem wd1686 : Cond.instanceMethod yX12_manyOf ∈ tb := tb_k7 (List.mem_of_getElem? (i := 140) rfl) rfl
theorem wd70 : Cond.selects RX12 yX12_manyOf yX12_manyOf ∈ tb := tb_p5 (List.mem_of_getElem? (i := 6) rfl)
theorem wd1707 : Cond.methodLink RX12 295 yX12_worthAt ∈ tb := tb_k7 (List.mem_of_getElem? (i := 161) rfl) rfl
theorem wd1709 : Cond.instanceMethod yX12_worthAt ∈ tb := tb_k7 (List.mem_of_getElem? (i := 163) rfl) rfl
theorem wd75 : Cond.selects RX12 yX12_worthAt yX12_worthAt ∈ tb := tb_p5 (List.mem_of_getElem? (i := 11) rfl)
theorem wd1696 : Cond.methodLink RX12 298 yX12_kindOf ∈ tb := tb_k7 (List.mem_of_getElem? (i := 150) rfl) rfl
theorem wd1698 : Cond.instanceMethod yX12_kindOf ∈ tb := tb_k7 (List.mem_of_getElem? (i := 152) rfl) rfl
theorem wd73 : Cond.selects RX12 yX12_kindOf yX12_kindOf ∈ tb := tb_p5 (List.mem_of_getElem? (i := 9) rfl)
theorem wd1700 : Cond.methodLink RX12 307 yX12_numberAt ∈ tb := tb_k7 (List.mem_of_getElem? (i := 154) rfl) rfl
theorem wd1701 : Cond.static yX12_numberAt ∈ tb := tb_k7 (List.mem_of_getElem? (i := 155) rfl) rfl
theorem wd1703 : Cond.methodLink RX12 310 yX12_weighs ∈ tb := tb_k7 (List.mem_of_getElem? (i := 157) rfl) rfl
theorem wd1705 : Cond.instanceMethod yX12_weighs ∈ tb := tb_k7 (List.mem_of_getElem? (i := 159) rfl) rfl
theorem wd74 : Cond.selects RX12 yX12_weighs yX12_weighs ∈ tb := tb_p5 (List.mem_of_getElem? (i := 10) rfl)
theorem wd1722 : Cond.methodLink RX12 314 yX12_follows ∈ tb := tb_k7 (List.mem_of_getElem? (i := 176) rfl) rfl
theorem wd1724 : Cond.instanceMethod yX12_follows ∈ tb := tb_k7 (List.mem_of_getElem? (i := 178) rfl) rfl
theorem wd78 : Cond.selects RX12 yX12_follows yX12_follows ∈ tb := tb_p5 (List.mem_of_getElem? (i := 14) rfl)
theorem wd1718 : Cond.methodLink RX12 318 yX12_findsEnding ∈ tb := tb_k7 (List.mem_of_getElem? (i := 172) rfl) rfl
theorem wd1720 : Cond.instanceMethod yX12_findsEnding ∈ tb := tb_k7 (List.mem_of_getElem? (i := 174) rfl) rfl
theorem wd77 : Cond.selects RX12 yX12_findsEnding yX12_findsEnding ∈ tb := tb_p5 (List.mem_of_getElem? (i := 13) rfl)
theorem wd1726 : Cond.methodLink RX12 321 yX12_longAt ∈ tb := tb_k7 (List.mem_of_getElem? (i := 180) rfl) rfl
theorem wd1728 : Cond.instanceMethod yX12_longAt ∈ tb := tb_k7 (List.mem_of_getElem? (i := 182) rfl) rfl
theorem wd79 : Cond.selects RX12 yX12_longAt yX12_longAt ∈ tb := tb_p5 (List.mem_of_getElem? (i := 15) rfl)
theorem wd1692 : Cond.methodLink RX12 324 yX12_laysRow ∈ tb := tb_k7 (List.mem_of_getElem? (i := 146) rfl) rfl
theorem wd1694 : Cond.instanceMethod yX12_laysRow ∈ tb := tb_k7 (List.mem_of_getElem? (i := 148) rfl) rfl
theorem wd72 : Cond.selects RX12 yX12_laysRow yX12_laysRow ∈ tb := tb_p5 (List.mem_of_getElem? (i := 8) rfl)
theorem wd1714 : Cond.methodLink RX12 327 yX12_findsLongs ∈ tb := tb_k7 (List.mem_of_getElem? (i := 168) rfl) rfl
theorem wd1716 : Cond.instanceMethod yX12_findsLongs ∈ tb := tb_k7 (List.mem_of_getElem? (i := 170) rfl) rfl
theorem wd76 : Cond.selects RX12 yX12_findsLongs yX12_findsLongs ∈ tb := tb_p5 (List.mem_of_getElem? (i := 12) rfl)
theorem wd1676 : Cond.methodLink RX12 330 yX12_isWindow ∈ tb := tb_k7 (List.mem_of_getElem? (i := 130) rfl) rfl
theorem wd1678 : Cond.instanceMethod yX12_isWindow ∈ tb := tb_k7 (List.mem_of_getElem? (i := 132) rfl) rfl
theorem wd68 : Cond.selects RX12 yX12_isWindow yX12_isWindow ∈ tb := tb_p5 (List.mem_of_getElem? (i := 4) rfl)
theorem wd1688 : Cond.methodLink RX12 334 yX12_laysAll ∈ tb := tb_k7 (List.mem_of_getElem? (i := 142) rfl) rfl
theorem wd1690 : Cond.instanceMethod yX12_laysAll ∈ tb := tb_k7 (List.mem_of_getElem? (i := 144) rfl) rfl
theorem wd71 : Cond.selects RX12 yX12_laysAll yX12_laysAll ∈ tb := tb_p5 (List.mem_of_getElem? (i := 7) rfl)
theorem wd1734 : Cond.methodLink RX12 337 yX12_findsStarting ∈ tb := tb_k7 (List.mem_of_getElem? (i := 188) rfl) rfl
theorem wd1736 : Cond.instanceMethod yX12_findsStarting ∈ tb := tb_k7 (List.mem_of_getElem? (i := 190) rfl) rfl
theorem wd80 : Cond.selects RX12 yX12_findsStarting yX12_findsStarting ∈ tb := tb_p6 (List.mem_of_getElem? (i := 0) rfl)
theorem wd1742 : Cond.methodLink RX12 340 yX12_waysOf ∈ tb := tb_k7 (List.mem_of_getElem? (i := 196) rfl) rfl
theorem wd1744 : Cond.instanceMethod yX12_waysOf ∈ tb := tb_k7 (List.mem_of_getElem? (i := 198) rfl) rfl
theorem wd81 : Cond.selects RX12 yX12_waysOf yX12_waysOf ∈ tb := tb_p6 (List.mem_of_getElem? (i := 1) rfl)
theorem wd1752 : Cond.methodLink RX12 346 yX12_mayOf ∈ tb := tb_k7 (List.mem_of_getElem? (i := 206) rfl) rfl
theorem wd1754 : Cond.instanceMethod yX12_mayOf ∈ tb := tb_k7 (List.mem_of_getElem? (i := 208) rfl) rfl
theorem wd82 : Cond.selects RX12 yX12_mayOf yX12_mayOf ∈ tb := tb_p6 (List.mem_of_getElem? (i := 2) rfl)
theorem wd1764 : Cond.methodLink RX12 349 yX12_bareAt ∈ tb := tb_k7 (List.mem_of_getElem? (i := 218) rfl) rfl
theorem wd1766 : Cond.instanceMethod yX12_bareAt ∈ tb := tb_k7 (List.mem_of_getElem? (i := 220) rfl) rfl
theorem wd83 : Cond.selects RX12 yX12_bareAt yX12_bareAt ∈ tb := tb_p6 (List.mem_of_getElem? (i := 3) rfl)
theorem wd1772 : Cond.methodLink RX12 352 yX12_isPlace ∈ tb := tb_k7 (List.mem_of_getElem? (i := 226) rfl) rfl
theorem wd1774 : Cond.instanceMethod yX12_isPlace ∈ tb := tb_k7 (List.mem_of_getElem? (i := 228) rfl) rfl
theorem wd84 : Cond.selects RX12 yX12_isPlace yX12_isPlace ∈ tb := tb_p6 (List.mem_of_getElem? (i := 4) rfl)
theorem wd1776 : Cond.methodLink RX12 355 yX12_strandOf ∈ tb := tb_k7 (List.mem_of_getElem? (i := 230) rfl) rfl
theorem wd1778 : Cond.instanceMethod yX12_strandOf ∈ tb := tb_k7 (List.mem_of_getElem? (i := 232) rfl) rfl
theorem wd85 : Cond.selects RX12 yX12_strandOf yX12_strandOf ∈ tb := tb_p6 (List.mem_of_getElem? (i := 5) rfl)
theorem wd1788 : Cond.methodLink RX12 358 yX12_within ∈ tb := tb_k8 (List.mem_of_getElem? (i := 2) rfl) rfl
theorem wd1789 : Cond.static yX12_within ∈ tb := tb_k8 (List.mem_of_getElem? (i := 3) rfl) rfl
theorem wd1807 : Cond.methodLink RX12 361 yX12_inserts ∈ tb := tb_k8 (List.mem_of_getElem? (i := 21) rfl) rfl
theorem wd1809 : Cond.instanceMethod yX12_inserts ∈ tb := tb_k8 (List.mem_of_getElem? (i := 23) rfl) rfl
theorem wd86 : Cond.selects RX12 yX12_inserts yX12_inserts ∈ tb := tb_p6 (List.mem_of_getElem? (i := 6) rfl)
theorem wd1815 : Cond.methodLink RX12 364 yX12_findsCommon ∈ tb := tb_k8 (List.mem_of_getElem? (i := 29) rfl) rfl
theorem wd1817 : Cond.instanceMethod yX12_findsCommon ∈ tb := tb_k8 (List.mem_of_getElem? (i := 31) rfl) rfl
theorem wd87 : Cond.selects RX12 yX12_findsCommon yX12_findsCommon ∈ tb := tb_p6 (List.mem_of_getElem? (i := 7) rfl)
theorem wd1855 : Cond.methodLink RX12 367 yX12_countOf ∈ tb := tb_k8 (List.mem_of_getElem? (i := 69) rfl) rfl
theorem wd1856 : Cond.static yX12_countOf ∈ tb := tb_k8 (List.mem_of_getElem? (i := 70) rfl) rfl
theorem wd1870 : Cond.methodLink RX12 371 yX12_laysCounts ∈ tb := tb_k8 (List.mem_of_getElem? (i := 84) rfl) rfl
theorem wd1871 : Cond.static yX12_laysCounts ∈ tb := tb_k8 (List.mem_of_getElem? (i := 85) rfl) rfl
theorem wd1831 : Cond.methodLink RX12 375 yX12_strandsOf ∈ tb := tb_k8 (List.mem_of_getElem? (i := 45) rfl) rfl
theorem wd1833 : Cond.instanceMethod yX12_strandsOf ∈ tb := tb_k8 (List.mem_of_getElem? (i := 47) rfl) rfl
theorem wd89 : Cond.selects RX12 yX12_strandsOf yX12_strandsOf ∈ tb := tb_p6 (List.mem_of_getElem? (i := 9) rfl)
theorem wd1839 : Cond.methodLink RX12 378 yX12_endOf ∈ tb := tb_k8 (List.mem_of_getElem? (i := 53) rfl) rfl
theorem wd1841 : Cond.instanceMethod yX12_endOf ∈ tb := tb_k8 (List.mem_of_getElem? (i := 55) rfl) rfl
theorem wd91 : Cond.selects RX12 yX12_endOf yX12_endOf ∈ tb := tb_p6 (List.mem_of_getElem? (i := 11) rfl)
theorem wd1827 : Cond.methodLink RX12 381 yX12_isBraid ∈ tb := tb_k8 (List.mem_of_getElem? (i := 41) rfl) rfl
theorem wd1829 : Cond.instanceMethod yX12_isBraid ∈ tb := tb_k8 (List.mem_of_getElem? (i := 43) rfl) rfl
theorem wd88 : Cond.selects RX12 yX12_isBraid yX12_isBraid ∈ tb := tb_p6 (List.mem_of_getElem? (i := 8) rfl)
theorem wd1835 : Cond.methodLink RX12 384 yX12_crossingsOf ∈ tb := tb_k8 (List.mem_of_getElem? (i := 49) rfl) rfl
theorem wd1837 : Cond.instanceMethod yX12_crossingsOf ∈ tb := tb_k8 (List.mem_of_getElem? (i := 51) rfl) rfl
theorem wd90 : Cond.selects RX12 yX12_crossingsOf yX12_crossingsOf ∈ tb := tb_p6 (List.mem_of_getElem? (i := 10) rfl)
theorem wd1851 : Cond.methodLink RX12 387 yX12_laysBraid ∈ tb := tb_k8 (List.mem_of_getElem? (i := 65) rfl) rfl
theorem wd1853 : Cond.instanceMethod yX12_laysBraid ∈ tb := tb_k8 (List.mem_of_getElem? (i := 67) rfl) rfl
theorem wd92 : Cond.selects RX12 yX12_laysBraid yX12_laysBraid ∈ tb := tb_p6 (List.mem_of_getElem? (i := 12) rfl)
theorem wd1862 : Cond.methodLink RX12 391 yX12_areAlike ∈ tb := tb_k8 (List.mem_of_getElem? (i := 76) rfl) rfl
theorem wd1864 : Cond.instanceMethod yX12_areAlike ∈ tb := tb_k8 (List.mem_of_getElem? (i := 78) rfl) rfl
theorem wd93 : Cond.selects RX12 yX12_areAlike yX12_areAlike ∈ tb := tb_p6 (List.mem_of_getElem? (i := 13) rfl)
theorem wd1866 : Cond.methodLink RX12 394 yX12_composes ∈ tb := tb_k8 (List.mem_of_getElem? (i := 80) rfl) rfl
theorem wd1868 : Cond.instanceMethod yX12_composes ∈ tb := tb_k8 (List.mem_of_getElem? (i := 82) rfl) rfl
theorem wd94 : Cond.selects RX12 yX12_composes yX12_composes ∈ tb := tb_p6 (List.mem_of_getElem? (i := 14) rfl)
theorem wd1877 : Cond.methodLink RX12 397 yX12_powers ∈ tb := tb_k8 (List.mem_of_getElem? (i := 91) rfl) rfl
theorem wd1879 : Cond.instanceMethod yX12_powers ∈ tb := tb_k8 (List.mem_of_getElem? (i := 93) rfl) rfl
theorem wd95 : Cond.selects RX12 yX12_powers yX12_powers ∈ tb := tb_p6 (List.mem_of_getElem? (i := 15) rfl)
theorem wd1917 : Cond.methodLink RX12 400 yX12_strandAt ∈ tb := tb_k8 (List.mem_of_getElem? (i := 131) rfl) rfl
theorem wd1919 : Cond.instanceMethod yX12_strandAt ∈ tb := tb_k8 (List.mem_of_getElem? (i := 133) rfl) rfl
theorem wd98 : Cond.selects RX12 yX12_strandAt yX12_strandAt ∈ tb := tb_p7 (List.mem_of_getElem? (i := 2) rfl)
theorem wd1913 : Cond.methodLink RX12 403 yX12_mayDo ∈ tb := tb_k8 (List.mem_of_getElem? (i := 127) rfl) rfl
theorem wd1915 : Cond.instanceMethod yX12_mayDo ∈ tb := tb_k8 (List.mem_of_getElem? (i := 129) rfl) rfl
theorem wd97 : Cond.selects RX12 yX12_mayDo yX12_mayDo ∈ tb := tb_p7 (List.mem_of_getElem? (i := 1) rfl)
theorem wd1921 : Cond.methodLink RX12 407 yX12_keeps ∈ tb := tb_k8 (List.mem_of_getElem? (i := 135) rfl) rfl
theorem wd1923 : Cond.instanceMethod yX12_keeps ∈ tb := tb_k8 (List.mem_of_getElem? (i := 137) rfl) rfl
theorem wd99 : Cond.selects RX12 yX12_keeps yX12_keeps ∈ tb := tb_p7 (List.mem_of_getElem? (i := 3) rfl)
theorem wd1929 : Cond.methodLink RX12 410 yX12_does ∈ tb := tb_k8 (List.mem_of_getElem? (i := 143) rfl) rfl
theorem wd1931 : Cond.instanceMethod yX12_does ∈ tb := tb_k8 (List.mem_of_getElem? (i := 145) rfl) rfl
theorem wd101 : Cond.selects RX12 yX12_does yX12_does ∈ tb := tb_p7 (List.mem_of_getElem? (i := 5) rfl)
theorem wd1909 : Cond.methodLink RX12 414 yX12_isDone ∈ tb := tb_k8 (List.mem_of_getElem? (i := 123) rfl) rfl
theorem wd1911 : Cond.instanceMethod yX12_isDone ∈ tb := tb_k8 (List.mem_of_getElem? (i := 125) rfl) rfl
theorem wd96 : Cond.selects RX12 yX12_isDone yX12_isDone ∈ tb := tb_p7 (List.mem_of_getElem? (i := 0) rfl)
theorem wd1957 : Cond.methodLink RX12 417 yX12_numbersOf ∈ tb := tb_k8 (List.mem_of_getElem? (i := 171) rfl) rfl
theorem wd1959 : Cond.instanceMethod yX12_numbersOf ∈ tb := tb_k8 (List.mem_of_getElem? (i := 173) rfl) rfl
theorem wd102 : Cond.selects RX12 yX12_numbersOf yX12_numbersOf ∈ tb := tb_p7 (List.mem_of_getElem? (i := 6) rfl)
theorem wd1973 : Cond.methodLink RX12 420 yX12_isAsSeen ∈ tb := tb_k8 (List.mem_of_getElem? (i := 187) rfl) rfl
theorem wd1975 : Cond.instanceMethod yX12_isAsSeen ∈ tb := tb_k8 (List.mem_of_getElem? (i := 189) rfl) rfl
theorem wd104 : Cond.selects RX12 yX12_isAsSeen yX12_isAsSeen ∈ tb := tb_p7 (List.mem_of_getElem? (i := 8) rfl)
theorem wd1969 : Cond.methodLink RX12 423 yX12_fitting ∈ tb := tb_k8 (List.mem_of_getElem? (i := 183) rfl) rfl
theorem wd1971 : Cond.instanceMethod yX12_fitting ∈ tb := tb_k8 (List.mem_of_getElem? (i := 185) rfl) rfl
theorem wd103 : Cond.selects RX12 yX12_fitting yX12_fitting ∈ tb := tb_p7 (List.mem_of_getElem? (i := 7) rfl)
theorem wd1989 : Cond.methodLink RX12 438 yX12_draw ∈ tb := tb_k8 (List.mem_of_getElem? (i := 203) rfl) rfl
theorem wd1991 : Cond.instanceMethod yX12_draw ∈ tb := tb_k8 (List.mem_of_getElem? (i := 205) rfl) rfl
theorem wd105 : Cond.selects RX12 yX12_draw yX12_draw ∈ tb := tb_p7 (List.mem_of_getElem? (i := 9) rfl)
theorem wd1747 : Cond.constant RX12 345 (2000000000 : Int32) ∈ tb := tb_k7 (List.mem_of_getElem? (i := 201) rfl) rfl
theorem wd1294 : Cond.constantLong RX11 371 (1103515245 : Int64) ∈ tb := tb_k5 (List.mem_of_getElem? (i := 228) rfl) rfl
theorem wd1295 : Cond.constantLong RX11 373 (12345 : Int64) ∈ tb := tb_k5 (List.mem_of_getElem? (i := 229) rfl) rfl
theorem wd1296 : Cond.constantLong RX11 375 (2147483647 : Int64) ∈ tb := tb_k5 (List.mem_of_getElem? (i := 230) rfl) rfl
theorem wd1297 : Cond.constantLong RX11 377 (65536 : Int64) ∈ tb := tb_k5 (List.mem_of_getElem? (i := 231) rfl) rfl
theorem wd1055 : Cond.constantLong RX1 79 (2000000000 : Int64) ∈ tb := tb_k4 (List.mem_of_getElem? (i := 229) rfl) rfl
theorem wd197 : Cond.constantLong RX9 79 (32 : Int64) ∈ tb := tb_k1 (List.mem_of_getElem? (i := 91) rfl) rfl
theorem wd1391 : Cond.constantLong RX12 34 (25220 : Int64) ∈ tb := tb_k6 (List.mem_of_getElem? (i := 85) rfl) rfl
theorem wd1392 : Cond.constantLong RX12 36 (4661782 : Int64) ∈ tb := tb_k6 (List.mem_of_getElem? (i := 86) rfl) rfl
theorem wd1393 : Cond.constantLong RX12 38 (1604747591 : Int64) ∈ tb := tb_k6 (List.mem_of_getElem? (i := 87) rfl) rfl
theorem wd1394 : Cond.constantLong RX12 40 (100148348 : Int64) ∈ tb := tb_k6 (List.mem_of_getElem? (i := 88) rfl) rfl
theorem wd1395 : Cond.constantLong RX12 42 (4904 : Int64) ∈ tb := tb_k6 (List.mem_of_getElem? (i := 89) rfl) rfl
theorem wd1396 : Cond.constantLong RX12 44 (1042489 : Int64) ∈ tb := tb_k6 (List.mem_of_getElem? (i := 90) rfl) rfl
theorem wd1397 : Cond.constantLong RX12 46 (6555494 : Int64) ∈ tb := tb_k6 (List.mem_of_getElem? (i := 91) rfl) rfl
theorem wd1398 : Cond.constantLong RX12 48 (564229 : Int64) ∈ tb := tb_k6 (List.mem_of_getElem? (i := 92) rfl) rfl
theorem wd1399 : Cond.constantLong RX12 50 (1355942609 : Int64) ∈ tb := tb_k6 (List.mem_of_getElem? (i := 93) rfl) rfl
theorem wd1400 : Cond.constantLong RX12 52 (1171912 : Int64) ∈ tb := tb_k6 (List.mem_of_getElem? (i := 94) rfl) rfl
theorem wd1401 : Cond.constantLong RX12 54 (224012 : Int64) ∈ tb := tb_k6 (List.mem_of_getElem? (i := 95) rfl) rfl
theorem wd1402 : Cond.constantLong RX12 56 (975257 : Int64) ∈ tb := tb_k6 (List.mem_of_getElem? (i := 96) rfl) rfl
theorem wd1403 : Cond.constantLong RX12 58 (19741 : Int64) ∈ tb := tb_k6 (List.mem_of_getElem? (i := 97) rfl) rfl
theorem wd1404 : Cond.constantLong RX12 60 (1891 : Int64) ∈ tb := tb_k6 (List.mem_of_getElem? (i := 98) rfl) rfl
theorem wd1405 : Cond.constantLong RX12 62 (573 : Int64) ∈ tb := tb_k6 (List.mem_of_getElem? (i := 99) rfl) rfl
theorem wd1406 : Cond.constantLong RX12 64 (1010834209 : Int64) ∈ tb := tb_k6 (List.mem_of_getElem? (i := 100) rfl) rfl
theorem wd1407 : Cond.constantLong RX12 66 (30595897 : Int64) ∈ tb := tb_k6 (List.mem_of_getElem? (i := 101) rfl) rfl
theorem wd1408 : Cond.constantLong RX12 68 (660401 : Int64) ∈ tb := tb_k6 (List.mem_of_getElem? (i := 102) rfl) rfl
theorem wd1409 : Cond.constantLong RX12 70 (570026 : Int64) ∈ tb := tb_k6 (List.mem_of_getElem? (i := 103) rfl) rfl
theorem wd1564 : Cond.constantLong RX12 168 (37 : Int64) ∈ tb := tb_k7 (List.mem_of_getElem? (i := 18) rfl) rfl
theorem wd1571 : Cond.constantLong RX12 177 (10 : Int64) ∈ tb := tb_k7 (List.mem_of_getElem? (i := 25) rfl) rfl
theorem wd1572 : Cond.constantLong RX12 179 (48 : Int64) ∈ tb := tb_k7 (List.mem_of_getElem? (i := 26) rfl) rfl
theorem wd1746 : Cond.constantLong RX12 343 (2000000000 : Int64) ∈ tb := tb_k7 (List.mem_of_getElem? (i := 200) rfl) rfl
theorem wd1993 : Cond.constantLong RX12 430 (1103515245 : Int64) ∈ tb := tb_k8 (List.mem_of_getElem? (i := 207) rfl) rfl
theorem wd1994 : Cond.constantLong RX12 432 (12345 : Int64) ∈ tb := tb_k8 (List.mem_of_getElem? (i := 208) rfl) rfl
theorem wd1995 : Cond.constantLong RX12 434 (2147483648 : Int64) ∈ tb := tb_k8 (List.mem_of_getElem? (i := 209) rfl) rfl
theorem wd1996 : Cond.constantLong RX12 436 (65536 : Int64) ∈ tb := tb_k8 (List.mem_of_getElem? (i := 210) rfl) rfl
